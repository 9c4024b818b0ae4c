abbrev w_X5_in (E : Ev)   : va_W := []
set_option maxHeartbeats 4000000 in
set_option maxRecDepth 100000 in
theorem m_X5_in {l : Launch} (E : Ev)   (x0 : Int32) (x1 : Int32) (x2 : Int32) (res : Int32) (hf : f_X5_in   x0 x1 x2 = some res) : PureI l E 1 yX5_in cX5_in 3 .boolean [.int x0, .int x1, .int x2] [] res := by
  refine PureI.of (by decide) (Nat.le_of_ble_eq_true rfl) ?_
  intro p e s m args below meth c Q A X hK hA hret H locs ls hl hP hS
  obtain ⟨hx, hb, hml, hown, hts, hrt, hlk⟩ := id X
  have hl : lv_has ls 3 [(0, .int x0), (1, .int x1), (2, .int x2)] := hl
  unfold f_X5_in at hf
  refine lv_iload_n hx hb dX5_in_0 rfl (lv_at hl 0 rfl) ?_
  refine lv_iload_n hx hb dX5_in_1 rfl (lv_at hl 1 rfl) ?_
  refine lv_icmp_lt (tgt := 14) hx hb dX5_in_2 (by decide) (fun c_1 => ?_) (fun c_1 => ?_)
  · replace hf := ot c_1 hf
    refine lv_iconst (v := (0 : Int32)) hx hb dX5_in_14 (by decide) ?_
    obtain rfl := Option.some.inj hf
    exact hret H locs _ ls nar0 hP hS dX5_in_15
  · replace hf := of c_1 hf
    refine lv_iload_n hx hb dX5_in_5 rfl (lv_at hl 0 rfl) ?_
    refine lv_iload_n hx hb dX5_in_6 rfl (lv_at hl 2 rfl) ?_
    refine lv_icmp_gt (tgt := 14) hx hb dX5_in_7 (by decide) (fun c_2 => ?_) (fun c_2 => ?_)
    · replace hf := ot c_2 hf
      refine lv_iconst (v := (0 : Int32)) hx hb dX5_in_14 (by decide) ?_
      obtain rfl := Option.some.inj hf
      exact hret H locs _ ls nar0 hP hS dX5_in_15
    · replace hf := of c_2 hf
      refine lv_iconst (v := (1 : Int32)) hx hb dX5_in_10 (by decide) ?_
      refine lv_goto (tgt := 15) hx hb dX5_in_11 (by decide) ?_
      obtain rfl := Option.some.inj hf
      exact hret H locs _ ls nar1 hP hS dX5_in_15

abbrev w_X5_isOven (E : Ev) (p_this : Nat) (p_text : Nat) (p_told : Nat) (p_draft : Nat) (p_s : Nat) (p_images : Nat) (p_kept : Nat) (p_notes : Nat) (p_held : Nat) (p_soonest : Nat) (v_trace : Int64) (v_typed : Int32) (v_noted : Int32) (v_at : Int32) (v_sort : Int32) (v_start : Int32) (v_value : Int32) (v_vanillaIn : Int32) (f_told : Nat → Int32) : va_W := [(p_this, .inr (5, [.long v_trace, .ref p_text, .int v_typed, .ref p_told, .ref p_draft, .ref p_s, .ref p_images, .ref p_kept, .ref p_notes, .int v_noted, .int v_at, .int v_sort, .int v_start, .int v_value, .int v_vanillaIn, .ref p_held, .ref p_soonest])), (p_told, .inl (E.2.1, 43, .inl f_told))]
set_option maxHeartbeats 4000000 in
set_option maxRecDepth 100000 in
theorem m_X5_isOven {l : Launch} (E : Ev) (p_this : Nat) (p_text : Nat) (p_told : Nat) (p_draft : Nat) (p_s : Nat) (p_images : Nat) (p_kept : Nat) (p_notes : Nat) (p_held : Nat) (p_soonest : Nat) (v_trace : Int64) (v_typed : Int32) (v_noted : Int32) (v_at : Int32) (v_sort : Int32) (v_start : Int32) (v_value : Int32) (v_vanillaIn : Int32) (f_told : Nat → Int32) (x1 : Int32) (res : Int32) (hf : f_X5_isOven  f_told x1 = some res) : PureI l E 2 yX5_isOven cX5_isOven 2 .boolean [.ref p_this, .int x1] (w_X5_isOven E p_this p_text p_told p_draft p_s p_images p_kept p_notes p_held p_soonest v_trace v_typed v_noted v_at v_sort v_start v_value v_vanillaIn f_told) res := by
  refine PureI.of (by decide) (Nat.le_of_ble_eq_true rfl) ?_
  intro p e s m args below meth c Q A X hK hA hret H locs ls hl hP hS
  obtain ⟨hx, hb, hml, hown, hts, hrt, hlk⟩ := id X
  have hl : lv_has ls 2 [(0, .ref p_this), (1, .int x1)] := hl
  unfold f_X5_isOven at hf
  refine lv_iload_n hx hb dX5_isOven_0 rfl (lv_at hl 1 rfl) ?_
  refine lv_iconst (v := (0 : Int32)) hx hb dX5_isOven_1 (by decide) ?_
  refine lv_aload_n hx hb dX5_isOven_2 rfl (lv_at hl 0 rfl) ?_
  refine gf_RX5_13 X hK hP 0 rfl rfl dX5_isOven_3 ?_
  refine lv_iconst (v := (0 : Int32)) hx hb dX5_isOven_6 (by decide) ?_
  refine iald X hK hP 1 rfl 0 (by decide) (by decide) dX5_isOven_7 ?_
  refine lv_iconst (v := (1 : Int32)) hx hb dX5_isOven_8 (by decide) ?_
  refine lv_isub hx hb dX5_isOven_9 ?_
  obtain ⟨u_2, hu_2, hf⟩ := ob hf
  refine pS X hK hA hP hS hl.1 (m_X5_in (l := l) E   x1 (0 : Int32) ((f_told 0) - (1 : Int32)) u_2 hu_2) kRX5_49 ⟨⟨(Nat.le_of_ble_eq_true rfl), (Nat.le_of_ble_eq_true rfl)⟩, Nat.zero_le _, Nat.zero_le _⟩ rfl rfl (Nat.le_of_ble_eq_true rfl) dX5_isOven_10 (fun H locs hP hS => ?_)
  obtain ⟨g_3, hf⟩ := og hf
  obtain rfl := Option.some.inj hf
  exact hret H locs _ ls (nz_nar g_3) hP hS dX5_isOven_13

abbrev w_X5_isDough (E : Ev) (p_this : Nat) (p_text : Nat) (p_told : Nat) (p_draft : Nat) (p_s : Nat) (p_images : Nat) (p_kept : Nat) (p_notes : Nat) (p_held : Nat) (p_soonest : Nat) (v_trace : Int64) (v_typed : Int32) (v_noted : Int32) (v_at : Int32) (v_sort : Int32) (v_start : Int32) (v_value : Int32) (v_vanillaIn : Int32) (f_told : Nat → Int32) : va_W := [(p_this, .inr (5, [.long v_trace, .ref p_text, .int v_typed, .ref p_told, .ref p_draft, .ref p_s, .ref p_images, .ref p_kept, .ref p_notes, .int v_noted, .int v_at, .int v_sort, .int v_start, .int v_value, .int v_vanillaIn, .ref p_held, .ref p_soonest])), (p_told, .inl (E.2.1, 43, .inl f_told))]
set_option maxHeartbeats 4000000 in
set_option maxRecDepth 100000 in
theorem m_X5_isDough {l : Launch} (E : Ev) (p_this : Nat) (p_text : Nat) (p_told : Nat) (p_draft : Nat) (p_s : Nat) (p_images : Nat) (p_kept : Nat) (p_notes : Nat) (p_held : Nat) (p_soonest : Nat) (v_trace : Int64) (v_typed : Int32) (v_noted : Int32) (v_at : Int32) (v_sort : Int32) (v_start : Int32) (v_value : Int32) (v_vanillaIn : Int32) (f_told : Nat → Int32) (x1 : Int32) (res : Int32) (hf : f_X5_isDough  f_told x1 = some res) : PureI l E 2 yX5_isDough cX5_isDough 2 .boolean [.ref p_this, .int x1] (w_X5_isDough E p_this p_text p_told p_draft p_s p_images p_kept p_notes p_held p_soonest v_trace v_typed v_noted v_at v_sort v_start v_value v_vanillaIn f_told) res := by
  refine PureI.of (by decide) (Nat.le_of_ble_eq_true rfl) ?_
  intro p e s m args below meth c Q A X hK hA hret H locs ls hl hP hS
  obtain ⟨hx, hb, hml, hown, hts, hrt, hlk⟩ := id X
  have hl : lv_has ls 2 [(0, .ref p_this), (1, .int x1)] := hl
  unfold f_X5_isDough at hf
  refine lv_iload_n hx hb dX5_isDough_0 rfl (lv_at hl 1 rfl) ?_
  refine lv_iconst (v := (0 : Int32)) hx hb dX5_isDough_1 (by decide) ?_
  refine lv_aload_n hx hb dX5_isDough_2 rfl (lv_at hl 0 rfl) ?_
  refine gf_RX5_13 X hK hP 0 rfl rfl dX5_isDough_3 ?_
  refine lv_iconst (v := (1 : Int32)) hx hb dX5_isDough_6 (by decide) ?_
  refine iald X hK hP 1 rfl 1 (by decide) (by decide) dX5_isDough_7 ?_
  refine lv_iconst (v := (1 : Int32)) hx hb dX5_isDough_8 (by decide) ?_
  refine lv_isub hx hb dX5_isDough_9 ?_
  obtain ⟨u_2, hu_2, hf⟩ := ob hf
  refine pS X hK hA hP hS hl.1 (m_X5_in (l := l) E   x1 (0 : Int32) ((f_told 1) - (1 : Int32)) u_2 hu_2) kRX5_49 ⟨⟨(Nat.le_of_ble_eq_true rfl), (Nat.le_of_ble_eq_true rfl)⟩, Nat.zero_le _, Nat.zero_le _⟩ rfl rfl (Nat.le_of_ble_eq_true rfl) dX5_isDough_10 (fun H locs hP hS => ?_)
  obtain ⟨g_3, hf⟩ := og hf
  obtain rfl := Option.some.inj hf
  exact hret H locs _ ls (nz_nar g_3) hP hS dX5_isDough_13

abbrev w_X5_isShut (E : Ev) (p_this : Nat) (p_text : Nat) (p_told : Nat) (p_draft : Nat) (p_s : Nat) (p_images : Nat) (p_kept : Nat) (p_notes : Nat) (p_held : Nat) (p_soonest : Nat) (v_trace : Int64) (v_typed : Int32) (v_noted : Int32) (v_at : Int32) (v_sort : Int32) (v_start : Int32) (v_value : Int32) (v_vanillaIn : Int32) (f_s : Nat → Int32) : va_W := [(p_this, .inr (5, [.long v_trace, .ref p_text, .int v_typed, .ref p_told, .ref p_draft, .ref p_s, .ref p_images, .ref p_kept, .ref p_notes, .int v_noted, .int v_at, .int v_sort, .int v_start, .int v_value, .int v_vanillaIn, .ref p_held, .ref p_soonest])), (p_s, .inl (E.2.1, 155, .inl f_s))]
set_option maxHeartbeats 4000000 in
set_option maxRecDepth 100000 in
theorem m_X5_isShut {l : Launch} (E : Ev) (p_this : Nat) (p_text : Nat) (p_told : Nat) (p_draft : Nat) (p_s : Nat) (p_images : Nat) (p_kept : Nat) (p_notes : Nat) (p_held : Nat) (p_soonest : Nat) (v_trace : Int64) (v_typed : Int32) (v_noted : Int32) (v_at : Int32) (v_sort : Int32) (v_start : Int32) (v_value : Int32) (v_vanillaIn : Int32) (f_s : Nat → Int32) (x1 : Int32) (res : Int32) (hf : f_X5_isShut  f_s x1 = some res) : PureI l E 1 yX5_isShut cX5_isShut 2 .boolean [.ref p_this, .int x1] (w_X5_isShut E p_this p_text p_told p_draft p_s p_images p_kept p_notes p_held p_soonest v_trace v_typed v_noted v_at v_sort v_start v_value v_vanillaIn f_s) res := by
  refine PureI.of (by decide) (Nat.le_of_ble_eq_true rfl) ?_
  intro p e s m args below meth c Q A X hK hA hret H locs ls hl hP hS
  obtain ⟨hx, hb, hml, hown, hts, hrt, hlk⟩ := id X
  have hl : lv_has ls 2 [(0, .ref p_this), (1, .int x1)] := hl
  unfold f_X5_isShut at hf
  refine lv_aload_n hx hb dX5_isShut_0 rfl (lv_at hl 0 rfl) ?_
  refine gf_RX5_19 X hK hP 0 rfl rfl dX5_isShut_1 ?_
  refine lv_bipush (v := (12 : Int32)) hx hb dX5_isShut_4 (by decide) ?_
  refine iald X hK hP 1 rfl 12 (by decide) (by decide) dX5_isShut_6 ?_
  refine lv_iload_n hx hb dX5_isShut_7 rfl (lv_at hl 1 rfl) ?_
  refine lv_ishr hx hb dX5_isShut_8 ?_
  refine lv_iconst (v := (1 : Int32)) hx hb dX5_isShut_9 (by decide) ?_
  refine lv_iand hx hb dX5_isShut_10 ?_
  refine lv_iconst (v := (1 : Int32)) hx hb dX5_isShut_11 (by decide) ?_
  refine lv_icmp_ne (tgt := 19) hx hb dX5_isShut_12 (by decide) (fun c_2 => ?_) (fun c_2 => ?_)
  · replace hf := of c_2 hf
    refine lv_iconst (v := (0 : Int32)) hx hb dX5_isShut_19 (by decide) ?_
    obtain rfl := Option.some.inj hf
    exact hret H locs _ ls nar0 hP hS dX5_isShut_20
  · replace hf := ot c_2 hf
    refine lv_iconst (v := (1 : Int32)) hx hb dX5_isShut_15 (by decide) ?_
    refine lv_goto (tgt := 20) hx hb dX5_isShut_16 (by decide) ?_
    obtain rfl := Option.some.inj hf
    exact hret H locs _ ls nar1 hP hS dX5_isShut_20

abbrev w_X5_type (E : Ev) (p_this : Nat) (p_text : Nat) (p_told : Nat) (p_draft : Nat) (p_s : Nat) (p_images : Nat) (p_kept : Nat) (p_notes : Nat) (p_held : Nat) (p_soonest : Nat) (v_trace : Int64) (v_typed : Int32) (v_noted : Int32) (v_at : Int32) (v_sort : Int32) (v_start : Int32) (v_value : Int32) (v_vanillaIn : Int32) (f_text : Nat → Int32) : va_W := [(p_this, .inr (5, [.long v_trace, .ref p_text, .int v_typed, .ref p_told, .ref p_draft, .ref p_s, .ref p_images, .ref p_kept, .ref p_notes, .int v_noted, .int v_at, .int v_sort, .int v_start, .int v_value, .int v_vanillaIn, .ref p_held, .ref p_soonest])), (p_text, .inl (E.2.1, 180, .inl f_text))]
set_option maxHeartbeats 4000000 in
set_option maxRecDepth 100000 in
theorem m_X5_type {l : Launch} (E : Ev) (p_this : Nat) (p_text : Nat) (p_told : Nat) (p_draft : Nat) (p_s : Nat) (p_images : Nat) (p_kept : Nat) (p_notes : Nat) (p_held : Nat) (p_soonest : Nat) (v_trace : Int64) (v_typed : Int32) (v_noted : Int32) (v_at : Int32) (v_sort : Int32) (v_start : Int32) (v_value : Int32) (v_vanillaIn : Int32) (f_text : Nat → Int32) (x1 : Int32) (res : Int32 × Int32 × (Nat → Int32)) (hf : f_X5_type  v_typed f_text x1 = some res) : MutI l E 2 yX5_type cX5_type 2 .int [.ref p_this, .int x1] (w_X5_type E p_this p_text p_told p_draft p_s p_images p_kept p_notes p_held p_soonest v_trace v_typed v_noted v_at v_sort v_start v_value v_vanillaIn f_text) (w_X5_type E p_this p_text p_told p_draft p_s p_images p_kept p_notes p_held p_soonest v_trace res.2.1 v_noted v_at v_sort v_start v_value v_vanillaIn res.2.2) res.1 := by
  refine MutI.of (by decide) (Nat.le_of_ble_eq_true rfl) ?_
  intro p e s m args below meth c Q A X hK hA hret H locs ls hl hP hD hS
  obtain ⟨hx, hb, hml, hown, hts, hrt, hlk⟩ := id X
  have hl : lv_has ls 2 [(0, .ref p_this), (1, .int x1)] := hl
  unfold f_X5_type at hf
  refine lv_iload_n hx hb dX5_type_0 rfl (lv_at hl 1 rfl) ?_
  refine lv_iconst (v := (0 : Int32)) hx hb dX5_type_1 (by decide) ?_
  refine lv_sipush (v := (255 : Int32)) hx hb dX5_type_2 (by decide) ?_
  obtain ⟨u_1, hu_1, hf⟩ := ob hf
  refine pS X hK hA hP hS hl.1 (m_X5_in (l := l) E   x1 (0 : Int32) (255 : Int32) u_1 hu_1) kRX5_49 ⟨⟨(Nat.le_of_ble_eq_true rfl), (Nat.le_of_ble_eq_true rfl)⟩, Nat.zero_le _, Nat.zero_le _⟩ rfl rfl (Nat.le_of_ble_eq_true rfl) dX5_type_5 (fun H locs hP hS => ?_)
  refine lv_if_ne (tgt := 13) hx hb dX5_type_8 (by decide) (fun c_2 => ?_) (fun c_2 => ?_)
  · replace hf := of c_2 hf
    refine lv_aload_n hx hb dX5_type_13 rfl (lv_at hl 0 rfl) ?_
    refine gf_RX5_53 X hK hP 0 rfl rfl dX5_type_14 ?_
    refine lv_sipush (v := (180 : Int32)) hx hb dX5_type_17 (by decide) ?_
    refine lv_icmp_ne (tgt := 26) hx hb dX5_type_20 (by decide) (fun c_3 => ?_) (fun c_3 => ?_)
    · replace hf := of c_3 hf
      refine lv_aload_n hx hb dX5_type_26 rfl (lv_at hl 0 rfl) ?_
      refine gf_RX5_7 X hK hP 0 rfl rfl dX5_type_27 ?_
      refine lv_aload_n hx hb dX5_type_30 rfl (lv_at hl 0 rfl) ?_
      refine gf_RX5_53 X hK hP 0 rfl rfl dX5_type_31 ?_
      refine lv_iload_n hx hb dX5_type_34 rfl (lv_at hl 1 rfl) ?_
      obtain ⟨g_4, hf⟩ := og hf
      refine iast X hK hP hD hS 1 rfl _ rfl g_4 dX5_type_35 (fun H locs hP hD hS => ?_)
      have hP : va_P E.1 classes (w_X5_type E p_this p_text p_told p_draft p_s p_images p_kept p_notes p_held p_soonest v_trace v_typed v_noted v_at v_sort v_start v_value v_vanillaIn (upd f_text v_typed.toNatClampNeg x1)) H := hP
      have hD : va_D A (w_X5_type E p_this p_text p_told p_draft p_s p_images p_kept p_notes p_held p_soonest v_trace v_typed v_noted v_at v_sort v_start v_value v_vanillaIn (upd f_text v_typed.toNatClampNeg x1)) := hD
      refine lv_aload_n hx hb dX5_type_36 rfl (lv_at hl 0 rfl) ?_
      refine lv_dup hx hb dX5_type_37 rfl ?_
      refine gf_RX5_53 X hK hP 0 rfl rfl dX5_type_38 ?_
      refine lv_iconst (v := (1 : Int32)) hx hb dX5_type_41 (by decide) ?_
      refine lv_iadd hx hb dX5_type_42 ?_
      refine pf_RX5_53 X hK hP hD hS 0 rfl rfl dX5_type_43 (fun H locs hP hD hS => ?_)
      have hP : va_P E.1 classes (w_X5_type E p_this p_text p_told p_draft p_s p_images p_kept p_notes p_held p_soonest v_trace (v_typed + (1 : Int32)) v_noted v_at v_sort v_start v_value v_vanillaIn (upd f_text v_typed.toNatClampNeg x1)) H := hP
      have hD : va_D A (w_X5_type E p_this p_text p_told p_draft p_s p_images p_kept p_notes p_held p_soonest v_trace (v_typed + (1 : Int32)) v_noted v_at v_sort v_start v_value v_vanillaIn (upd f_text v_typed.toNatClampNeg x1)) := hD
      refine lv_aload_n hx hb dX5_type_46 rfl (lv_at hl 0 rfl) ?_
      refine gf_RX5_53 X hK hP 0 rfl rfl dX5_type_47 ?_
      obtain rfl := Option.some.inj hf
      exact hret H locs _ ls rfl hP hS dX5_type_50
    · replace hf := ot c_3 hf
      refine lv_bipush (v := (-3 : Int32)) hx hb dX5_type_23 (by decide) ?_
      obtain rfl := Option.some.inj hf
      exact hret H locs _ ls rfl hP hS dX5_type_25
  · replace hf := ot c_2 hf
    refine lv_iconst (v := (-1 : Int32)) hx hb dX5_type_11 (by decide) ?_
    obtain rfl := Option.some.inj hf
    exact hret H locs _ ls rfl hP hS dX5_type_12

abbrev w_X5_clear (E : Ev) (p_this : Nat) (p_text : Nat) (p_told : Nat) (p_draft : Nat) (p_s : Nat) (p_images : Nat) (p_kept : Nat) (p_notes : Nat) (p_held : Nat) (p_soonest : Nat) (v_trace : Int64) (v_typed : Int32) (v_noted : Int32) (v_at : Int32) (v_sort : Int32) (v_start : Int32) (v_value : Int32) (v_vanillaIn : Int32) : va_W := [(p_this, .inr (5, [.long v_trace, .ref p_text, .int v_typed, .ref p_told, .ref p_draft, .ref p_s, .ref p_images, .ref p_kept, .ref p_notes, .int v_noted, .int v_at, .int v_sort, .int v_start, .int v_value, .int v_vanillaIn, .ref p_held, .ref p_soonest]))]
set_option maxHeartbeats 4000000 in
set_option maxRecDepth 100000 in
theorem m_X5_clear {l : Launch} (E : Ev) (p_this : Nat) (p_text : Nat) (p_told : Nat) (p_draft : Nat) (p_s : Nat) (p_images : Nat) (p_kept : Nat) (p_notes : Nat) (p_held : Nat) (p_soonest : Nat) (v_trace : Int64) (v_typed : Int32) (v_noted : Int32) (v_at : Int32) (v_sort : Int32) (v_start : Int32) (v_value : Int32) (v_vanillaIn : Int32)  (res : Int32 × Int32) (hf : f_X5_clear  v_typed  = some res) : MutI l E 1 yX5_clear cX5_clear 2 .int [.ref p_this] (w_X5_clear E p_this p_text p_told p_draft p_s p_images p_kept p_notes p_held p_soonest v_trace v_typed v_noted v_at v_sort v_start v_value v_vanillaIn) (w_X5_clear E p_this p_text p_told p_draft p_s p_images p_kept p_notes p_held p_soonest v_trace res.2 v_noted v_at v_sort v_start v_value v_vanillaIn) res.1 := by
  refine MutI.of (by decide) (Nat.le_of_ble_eq_true rfl) ?_
  intro p e s m args below meth c Q A X hK hA hret H locs ls hl hP hD hS
  obtain ⟨hx, hb, hml, hown, hts, hrt, hlk⟩ := id X
  have hl : lv_has ls 2 [(0, .ref p_this)] := hl
  unfold f_X5_clear at hf
  refine lv_aload_n hx hb dX5_clear_0 rfl (lv_at hl 0 rfl) ?_
  refine gf_RX5_53 X hK hP 0 rfl rfl dX5_clear_1 ?_
  refine lv_istore_n (lv' := [(1, .int v_typed), (0, .ref p_this)]) hx hb dX5_clear_4 rfl hl (by decide) rfl (fun ls hl => ?_)
  refine lv_aload_n hx hb dX5_clear_5 rfl (lv_at hl 1 rfl) ?_
  refine lv_iconst (v := (0 : Int32)) hx hb dX5_clear_6 (by decide) ?_
  refine pf_RX5_53 X hK hP hD hS 0 rfl rfl dX5_clear_7 (fun H locs hP hD hS => ?_)
  have hP : va_P E.1 classes (w_X5_clear E p_this p_text p_told p_draft p_s p_images p_kept p_notes p_held p_soonest v_trace (0 : Int32) v_noted v_at v_sort v_start v_value v_vanillaIn) H := hP
  have hD : va_D A (w_X5_clear E p_this p_text p_told p_draft p_s p_images p_kept p_notes p_held p_soonest v_trace (0 : Int32) v_noted v_at v_sort v_start v_value v_vanillaIn) := hD
  refine lv_iload_n hx hb dX5_clear_10 rfl (lv_at hl 0 rfl) ?_
  obtain rfl := Option.some.inj hf
  exact hret H locs _ ls rfl hP hS dX5_clear_11

abbrev w_X5_letterAt (E : Ev) (p_this : Nat) (p_text : Nat) (p_told : Nat) (p_draft : Nat) (p_s : Nat) (p_images : Nat) (p_kept : Nat) (p_notes : Nat) (p_held : Nat) (p_soonest : Nat) (v_trace : Int64) (v_typed : Int32) (v_noted : Int32) (v_at : Int32) (v_sort : Int32) (v_start : Int32) (v_value : Int32) (v_vanillaIn : Int32) (f_text : Nat → Int32) : va_W := [(p_this, .inr (5, [.long v_trace, .ref p_text, .int v_typed, .ref p_told, .ref p_draft, .ref p_s, .ref p_images, .ref p_kept, .ref p_notes, .int v_noted, .int v_at, .int v_sort, .int v_start, .int v_value, .int v_vanillaIn, .ref p_held, .ref p_soonest])), (p_text, .inl (E.2.1, 180, .inl f_text))]
set_option maxHeartbeats 4000000 in
set_option maxRecDepth 100000 in
theorem m_X5_letterAt {l : Launch} (E : Ev) (p_this : Nat) (p_text : Nat) (p_told : Nat) (p_draft : Nat) (p_s : Nat) (p_images : Nat) (p_kept : Nat) (p_notes : Nat) (p_held : Nat) (p_soonest : Nat) (v_trace : Int64) (v_typed : Int32) (v_noted : Int32) (v_at : Int32) (v_sort : Int32) (v_start : Int32) (v_value : Int32) (v_vanillaIn : Int32) (f_text : Nat → Int32) (x1 : Int32) (res : Int32) (hf : f_X5_letterAt  v_typed f_text x1 = some res) : PureI l E 1 yX5_letterAt cX5_letterAt 2 .int [.ref p_this, .int x1] (w_X5_letterAt E p_this p_text p_told p_draft p_s p_images p_kept p_notes p_held p_soonest v_trace v_typed v_noted v_at v_sort v_start v_value v_vanillaIn f_text) res := by
  refine PureI.of (by decide) (Nat.le_of_ble_eq_true rfl) ?_
  intro p e s m args below meth c Q A X hK hA hret H locs ls hl hP hS
  obtain ⟨hx, hb, hml, hown, hts, hrt, hlk⟩ := id X
  have hl : lv_has ls 2 [(0, .ref p_this), (1, .int x1)] := hl
  unfold f_X5_letterAt at hf
  refine lv_iload_n hx hb dX5_letterAt_0 rfl (lv_at hl 1 rfl) ?_
  refine lv_aload_n hx hb dX5_letterAt_1 rfl (lv_at hl 0 rfl) ?_
  refine gf_RX5_53 X hK hP 0 rfl rfl dX5_letterAt_2 ?_
  refine lv_icmp_ge (tgt := 17) hx hb dX5_letterAt_5 (by decide) (fun c_1 => ?_) (fun c_1 => ?_)
  · replace hf := ot c_1 hf
    refine lv_iconst (v := (-1 : Int32)) hx hb dX5_letterAt_17 (by decide) ?_
    obtain rfl := Option.some.inj hf
    exact hret H locs _ ls rfl hP hS dX5_letterAt_18
  · replace hf := of c_1 hf
    refine lv_aload_n hx hb dX5_letterAt_8 rfl (lv_at hl 0 rfl) ?_
    refine gf_RX5_7 X hK hP 0 rfl rfl dX5_letterAt_9 ?_
    refine lv_iload_n hx hb dX5_letterAt_12 rfl (lv_at hl 1 rfl) ?_
    obtain ⟨g_2, hf⟩ := og hf
    refine iald X hK hP 1 rfl _ rfl g_2 dX5_letterAt_13 ?_
    refine lv_goto (tgt := 18) hx hb dX5_letterAt_14 (by decide) ?_
    obtain rfl := Option.some.inj hf
    exact hret H locs _ ls rfl hP hS dX5_letterAt_18

abbrev w_X5_isLetter (E : Ev)   : va_W := []
set_option maxHeartbeats 4000000 in
set_option maxRecDepth 100000 in
theorem m_X5_isLetter {l : Launch} (E : Ev)   (x0 : Int32) (res : Int32) (hf : f_X5_isLetter   x0 = some res) : PureI l E 2 yX5_isLetter cX5_isLetter 1 .boolean [.int x0] [] res := by
  refine PureI.of (by decide) (Nat.le_of_ble_eq_true rfl) ?_
  intro p e s m args below meth c Q A X hK hA hret H locs ls hl hP hS
  obtain ⟨hx, hb, hml, hown, hts, hrt, hlk⟩ := id X
  have hl : lv_has ls 1 [(0, .int x0)] := hl
  unfold f_X5_isLetter at hf
  refine lv_iload_n hx hb dX5_isLetter_0 rfl (lv_at hl 0 rfl) ?_
  refine lv_bipush (v := (97 : Int32)) hx hb dX5_isLetter_1 (by decide) ?_
  refine lv_bipush (v := (122 : Int32)) hx hb dX5_isLetter_3 (by decide) ?_
  obtain ⟨u_1, hu_1, hf⟩ := ob hf
  refine pS X hK hA hP hS hl.1 (m_X5_in (l := l) E   x0 (97 : Int32) (122 : Int32) u_1 hu_1) kRX5_49 ⟨⟨(Nat.le_of_ble_eq_true rfl), (Nat.le_of_ble_eq_true rfl)⟩, Nat.zero_le _, Nat.zero_le _⟩ rfl rfl (Nat.le_of_ble_eq_true rfl) dX5_isLetter_5 (fun H locs hP hS => ?_)
  obtain ⟨g_2, hf⟩ := og hf
  obtain rfl := Option.some.inj hf
  exact hret H locs _ ls (nz_nar g_2) hP hS dX5_isLetter_8

abbrev w_X5_isDigit (E : Ev)   : va_W := []
set_option maxHeartbeats 4000000 in
set_option maxRecDepth 100000 in
theorem m_X5_isDigit {l : Launch} (E : Ev)   (x0 : Int32) (res : Int32) (hf : f_X5_isDigit   x0 = some res) : PureI l E 2 yX5_isDigit cX5_isDigit 1 .boolean [.int x0] [] res := by
  refine PureI.of (by decide) (Nat.le_of_ble_eq_true rfl) ?_
  intro p e s m args below meth c Q A X hK hA hret H locs ls hl hP hS
  obtain ⟨hx, hb, hml, hown, hts, hrt, hlk⟩ := id X
  have hl : lv_has ls 1 [(0, .int x0)] := hl
  unfold f_X5_isDigit at hf
  refine lv_iload_n hx hb dX5_isDigit_0 rfl (lv_at hl 0 rfl) ?_
  refine lv_bipush (v := (48 : Int32)) hx hb dX5_isDigit_1 (by decide) ?_
  refine lv_bipush (v := (57 : Int32)) hx hb dX5_isDigit_3 (by decide) ?_
  obtain ⟨u_1, hu_1, hf⟩ := ob hf
  refine pS X hK hA hP hS hl.1 (m_X5_in (l := l) E   x0 (48 : Int32) (57 : Int32) u_1 hu_1) kRX5_49 ⟨⟨(Nat.le_of_ble_eq_true rfl), (Nat.le_of_ble_eq_true rfl)⟩, Nat.zero_le _, Nat.zero_le _⟩ rfl rfl (Nat.le_of_ble_eq_true rfl) dX5_isDigit_5 (fun H locs hP hS => ?_)
  obtain ⟨g_2, hf⟩ := og hf
  obtain rfl := Option.some.inj hf
  exact hret H locs _ ls (nz_nar g_2) hP hS dX5_isDigit_8

abbrev w_X5_token (E : Ev) (p_this : Nat) (p_text : Nat) (p_told : Nat) (p_draft : Nat) (p_s : Nat) (p_images : Nat) (p_kept : Nat) (p_notes : Nat) (p_held : Nat) (p_soonest : Nat) (v_trace : Int64) (v_typed : Int32) (v_noted : Int32) (v_at : Int32) (v_sort : Int32) (v_start : Int32) (v_value : Int32) (v_vanillaIn : Int32) (f_text : Nat → Int32) : va_W := [(p_this, .inr (5, [.long v_trace, .ref p_text, .int v_typed, .ref p_told, .ref p_draft, .ref p_s, .ref p_images, .ref p_kept, .ref p_notes, .int v_noted, .int v_at, .int v_sort, .int v_start, .int v_value, .int v_vanillaIn, .ref p_held, .ref p_soonest])), (p_text, .inl (E.2.1, 180, .inl f_text))]
set_option maxHeartbeats 4000000 in
set_option maxRecDepth 100000 in
theorem b_X5_token_226 {p : Program} {l : Launch} {e : Env} {s : State} {m : MethodId} {args : Array Value} {below : List Frame} {meth : Method} {c : Code} {Q : State → Prop} {A : Nat → Prop} (E : Ev) (p_this : Nat) (p_text : Nat) (p_told : Nat) (p_draft : Nat) (p_s : Nat) (p_images : Nat) (p_kept : Nat) (p_notes : Nat) (p_held : Nat) (p_soonest : Nat) (v_trace : Int64) (v_typed : Int32) (v_noted : Int32) (v_vanillaIn : Int32) (f_text : Nat → Int32) (res : Int32 × Int32 × Int32 × Int32) (X : Cx p s m args meth c cX5_token 2 RX5 none) (hK : KK E A s s.heap) (hA : ∀ q, s.heap.size ≤ q → A q) (hret : RetV p l e (RM 3) s m args below meth c Q E A cX5_token (w_X5_token E p_this p_text p_told p_draft p_s p_images p_kept p_notes p_held p_soonest v_trace v_typed v_noted res.1 res.2.1 res.2.2.1 res.2.2.2 v_vanillaIn f_text)) (K170 : Int32 → Int32 → Int32 → Int32 → Int32 → Option (Int32 × Int32 × Int32 × Int32)) (hK170 : ∀ (v_at : Int32) (v_sort : Int32) (v_start : Int32) (v_value : Int32) (x1 : Int32), K170 v_at v_sort v_start v_value x1 = some res → ∀ (H : Heap) (locs : List Loc) (ls : Array Slot), lv_has ls 2 [(0, .ref p_this), (1, .int x1)] → va_P E.1 classes (w_X5_token E p_this p_text p_told p_draft p_s p_images p_kept p_notes p_held p_soonest v_trace v_typed v_noted v_at v_sort v_start v_value v_vanillaIn f_text) H → va_D A (w_X5_token E p_this p_text p_told p_draft p_s p_images p_kept p_notes p_held p_soonest v_trace v_typed v_noted v_at v_sort v_start v_value v_vanillaIn f_text) → va_S A s.heap H locs → W p l e (RM 3) s m args below meth c H locs 0 0 Q (F0 m 170 ls [])) (v_at : Int32) (v_sort : Int32) (v_start : Int32) (v_value : Int32) (x1 : Int32) (k0 : Int32) (hf : f_X5_token_226 v_typed f_text  K170 v_at v_sort v_start v_value x1 k0 = some res) : ∀ (H : Heap) (locs : List Loc) (ls : Array Slot), lv_has ls 2 [(0, .ref p_this), (1, .int x1)] → va_P E.1 classes (w_X5_token E p_this p_text p_told p_draft p_s p_images p_kept p_notes p_held p_soonest v_trace v_typed v_noted v_at v_sort v_start v_value v_vanillaIn f_text) H → va_D A (w_X5_token E p_this p_text p_told p_draft p_s p_images p_kept p_notes p_held p_soonest v_trace v_typed v_noted v_at v_sort v_start v_value v_vanillaIn f_text) → va_S A s.heap H locs → W p l e (RM 3) s m args below meth c H locs 0 0 Q (F0 m 226 ls [.int k0, .ref p_this]) := by
  obtain ⟨hx, hb, hml, hown, hts, hrt, hlk⟩ := id X
  intro H locs ls hl hP hD hS
  unfold f_X5_token_226 at hf
  refine pf_RX5_76 X hK hP hD hS 0 rfl rfl dX5_token_226 (fun H locs hP hD hS => ?_)
  have hP : va_P E.1 classes (w_X5_token E p_this p_text p_told p_draft p_s p_images p_kept p_notes p_held p_soonest v_trace v_typed v_noted v_at v_sort v_start k0 v_vanillaIn f_text) H := hP
  have hD : va_D A (w_X5_token E p_this p_text p_told p_draft p_s p_images p_kept p_notes p_held p_soonest v_trace v_typed v_noted v_at v_sort v_start k0 v_vanillaIn f_text) := hD
  refine lv_aload_n hx hb dX5_token_229 rfl (lv_at hl 0 rfl) ?_
  refine lv_dup hx hb dX5_token_230 rfl ?_
  refine gf_RX5_56 X hK hP 0 rfl rfl dX5_token_231 ?_
  refine lv_iconst (v := (1 : Int32)) hx hb dX5_token_234 (by decide) ?_
  refine lv_iadd hx hb dX5_token_235 ?_
  refine pf_RX5_56 X hK hP hD hS 0 rfl rfl dX5_token_236 (fun H locs hP hD hS => ?_)
  have hP : va_P E.1 classes (w_X5_token E p_this p_text p_told p_draft p_s p_images p_kept p_notes p_held p_soonest v_trace v_typed v_noted (v_at + (1 : Int32)) v_sort v_start k0 v_vanillaIn f_text) H := hP
  have hD : va_D A (w_X5_token E p_this p_text p_told p_draft p_s p_images p_kept p_notes p_held p_soonest v_trace v_typed v_noted (v_at + (1 : Int32)) v_sort v_start k0 v_vanillaIn f_text) := hD
  refine lv_goto (tgt := 170) hx hb dX5_token_239 (by decide) ?_
  exact hK170 (v_at + (1 : Int32)) v_sort v_start k0 x1 hf H locs ls (lv_sub hl [0, 1] rfl) hP hD hS

set_option maxHeartbeats 4000000 in
set_option maxRecDepth 100000 in
theorem b_X5_token_200 {p : Program} {l : Launch} {e : Env} {s : State} {m : MethodId} {args : Array Value} {below : List Frame} {meth : Method} {c : Code} {Q : State → Prop} {A : Nat → Prop} (E : Ev) (p_this : Nat) (p_text : Nat) (p_told : Nat) (p_draft : Nat) (p_s : Nat) (p_images : Nat) (p_kept : Nat) (p_notes : Nat) (p_held : Nat) (p_soonest : Nat) (v_trace : Int64) (v_typed : Int32) (v_noted : Int32) (v_vanillaIn : Int32) (f_text : Nat → Int32) (res : Int32 × Int32 × Int32 × Int32) (X : Cx p s m args meth c cX5_token 2 RX5 none) (hK : KK E A s s.heap) (hA : ∀ q, s.heap.size ≤ q → A q) (hret : RetV p l e (RM 3) s m args below meth c Q E A cX5_token (w_X5_token E p_this p_text p_told p_draft p_s p_images p_kept p_notes p_held p_soonest v_trace v_typed v_noted res.1 res.2.1 res.2.2.1 res.2.2.2 v_vanillaIn f_text)) (K170 : Int32 → Int32 → Int32 → Int32 → Int32 → Option (Int32 × Int32 × Int32 × Int32)) (hK170 : ∀ (v_at : Int32) (v_sort : Int32) (v_start : Int32) (v_value : Int32) (x1 : Int32), K170 v_at v_sort v_start v_value x1 = some res → ∀ (H : Heap) (locs : List Loc) (ls : Array Slot), lv_has ls 2 [(0, .ref p_this), (1, .int x1)] → va_P E.1 classes (w_X5_token E p_this p_text p_told p_draft p_s p_images p_kept p_notes p_held p_soonest v_trace v_typed v_noted v_at v_sort v_start v_value v_vanillaIn f_text) H → va_D A (w_X5_token E p_this p_text p_told p_draft p_s p_images p_kept p_notes p_held p_soonest v_trace v_typed v_noted v_at v_sort v_start v_value v_vanillaIn f_text) → va_S A s.heap H locs → W p l e (RM 3) s m args below meth c H locs 0 0 Q (F0 m 170 ls [])) (v_at : Int32) (v_sort : Int32) (v_start : Int32) (v_value : Int32) (x1 : Int32) (hf : f_X5_token_200 v_typed f_text  K170 v_at v_sort v_start v_value x1 = some res) : ∀ (H : Heap) (locs : List Loc) (ls : Array Slot), lv_has ls 2 [(0, .ref p_this), (1, .int x1)] → va_P E.1 classes (w_X5_token E p_this p_text p_told p_draft p_s p_images p_kept p_notes p_held p_soonest v_trace v_typed v_noted v_at v_sort v_start v_value v_vanillaIn f_text) H → va_D A (w_X5_token E p_this p_text p_told p_draft p_s p_images p_kept p_notes p_held p_soonest v_trace v_typed v_noted v_at v_sort v_start v_value v_vanillaIn f_text) → va_S A s.heap H locs → W p l e (RM 3) s m args below meth c H locs 0 0 Q (F0 m 200 ls [.ref p_this]) := by
  obtain ⟨hx, hb, hml, hown, hts, hrt, hlk⟩ := id X
  intro H locs ls hl hP hD hS
  unfold f_X5_token_200 at hf
  refine lv_sipush (v := (1000 : Int32)) hx hb dX5_token_200 (by decide) ?_
  refine lv_goto (tgt := 226) hx hb dX5_token_203 (by decide) ?_
  exact b_X5_token_226 E p_this p_text p_told p_draft p_s p_images p_kept p_notes p_held p_soonest v_trace v_typed v_noted v_vanillaIn f_text res X hK hA hret  K170 hK170 v_at v_sort v_start v_value x1 (1000 : Int32) hf H locs ls (lv_sub hl [0, 1] rfl) hP hD hS

set_option maxHeartbeats 4000000 in
set_option maxRecDepth 100000 in
theorem b_X5_token_170 {p : Program} {l : Launch} {e : Env} {s : State} {m : MethodId} {args : Array Value} {below : List Frame} {meth : Method} {c : Code} {Q : State → Prop} {A : Nat → Prop} (E : Ev) (p_this : Nat) (p_text : Nat) (p_told : Nat) (p_draft : Nat) (p_s : Nat) (p_images : Nat) (p_kept : Nat) (p_notes : Nat) (p_held : Nat) (p_soonest : Nat) (v_trace : Int64) (v_typed : Int32) (v_noted : Int32) (v_vanillaIn : Int32) (f_text : Nat → Int32) (res : Int32 × Int32 × Int32 × Int32) (X : Cx p s m args meth c cX5_token 2 RX5 none) (hK : KK E A s s.heap) (hA : ∀ q, s.heap.size ≤ q → A q) (hret : RetV p l e (RM 3) s m args below meth c Q E A cX5_token (w_X5_token E p_this p_text p_told p_draft p_s p_images p_kept p_notes p_held p_soonest v_trace v_typed v_noted res.1 res.2.1 res.2.2.1 res.2.2.2 v_vanillaIn f_text))  : ∀ (n : Nat) (v_at : Int32) (v_sort : Int32) (v_start : Int32) (v_value : Int32) (x1 : Int32), f_X5_token_170 v_typed f_text   n v_at v_sort v_start v_value x1 = some res → ∀ (H : Heap) (locs : List Loc) (ls : Array Slot), lv_has ls 2 [(0, .ref p_this), (1, .int x1)] → va_P E.1 classes (w_X5_token E p_this p_text p_told p_draft p_s p_images p_kept p_notes p_held p_soonest v_trace v_typed v_noted v_at v_sort v_start v_value v_vanillaIn f_text) H → va_D A (w_X5_token E p_this p_text p_told p_draft p_s p_images p_kept p_notes p_held p_soonest v_trace v_typed v_noted v_at v_sort v_start v_value v_vanillaIn f_text) → va_S A s.heap H locs → W p l e (RM 3) s m args below meth c H locs 0 0 Q (F0 m 170 ls []) := by
  obtain ⟨hx, hb, hml, hown, hts, hrt, hlk⟩ := id X
  intro n
  induction n with
  | zero => intro v_at v_sort v_start v_value x1 hf; exact absurd hf (by simp [f_X5_token_170])
  | succ n ih =>
    intro v_at v_sort v_start v_value x1 hf H locs ls hl hP hD hS
    unfold f_X5_token_170 at hf
    refine lv_aload_n hx hb dX5_token_170 rfl (lv_at hl 0 rfl) ?_
    refine lv_aload_n hx hb dX5_token_171 rfl (lv_at hl 0 rfl) ?_
    refine gf_RX5_56 X hK hP 0 rfl rfl dX5_token_172 ?_
    obtain ⟨u_1, hu_1, hf⟩ := ob hf
    refine pV X hK hA hP hS hl.1 (m_X5_letterAt (l := l) E p_this p_text p_told p_draft p_s p_images p_kept p_notes p_held p_soonest v_trace v_typed v_noted v_at v_sort v_start v_value v_vanillaIn f_text v_at u_1 hu_1) kRX5_59 [0, 1] rfl rfl rfl rfl ⟨⟨(Nat.le_of_ble_eq_true rfl), (Nat.le_of_ble_eq_true rfl)⟩, Nat.zero_le _, Nat.zero_le _⟩ rfl rfl (Nat.le_of_ble_eq_true rfl) dX5_token_175 (fun H locs hP hS => ?_)
    obtain ⟨u_2, hu_2, hf⟩ := ob hf
    refine pS X hK hA hP hS hl.1 (m_X5_isDigit (l := l) E   u_1 u_2 hu_2) kRX5_70 ⟨⟨(Nat.le_of_ble_eq_true rfl), (Nat.le_of_ble_eq_true rfl)⟩, Nat.zero_le _, Nat.zero_le _⟩ rfl rfl (Nat.le_of_ble_eq_true rfl) dX5_token_178 (fun H locs hP hS => ?_)
    refine lv_if_eq (tgt := 242) hx hb dX5_token_181 (by decide) (fun c_3 => ?_) (fun c_3 => ?_)
    · replace hf := ot c_3 hf
      obtain rfl := Option.some.inj hf
      exact hret H locs _ ls hP hS dX5_token_242
    · replace hf := of c_3 hf
      refine lv_aload_n hx hb dX5_token_184 rfl (lv_at hl 0 rfl) ?_
      refine lv_iload_n hx hb dX5_token_185 rfl (lv_at hl 1 rfl) ?_
      refine lv_bipush (v := (48 : Int32)) hx hb dX5_token_186 (by decide) ?_
      refine lv_icmp_eq (tgt := 200) hx hb dX5_token_188 (by decide) (fun c_4 => ?_) (fun c_4 => ?_)
      · replace hf := ot c_4 hf
        exact b_X5_token_200 E p_this p_text p_told p_draft p_s p_images p_kept p_notes p_held p_soonest v_trace v_typed v_noted v_vanillaIn f_text res X hK hA hret  (f_X5_token_170 v_typed f_text   n) ih v_at v_sort v_start v_value x1 hf H locs ls (lv_sub hl [0, 1] rfl) hP hD hS
      · replace hf := of c_4 hf
        refine lv_aload_n hx hb dX5_token_191 rfl (lv_at hl 0 rfl) ?_
        refine gf_RX5_76 X hK hP 0 rfl rfl dX5_token_192 ?_
        refine lv_bipush (v := (99 : Int32)) hx hb dX5_token_195 (by decide) ?_
        refine lv_icmp_le (tgt := 206) hx hb dX5_token_197 (by decide) (fun c_5 => ?_) (fun c_5 => ?_)
        · replace hf := ot c_5 hf
          refine lv_bipush (v := (10 : Int32)) hx hb dX5_token_206 (by decide) ?_
          refine lv_aload_n hx hb dX5_token_208 rfl (lv_at hl 0 rfl) ?_
          refine gf_RX5_76 X hK hP 0 rfl rfl dX5_token_209 ?_
          refine lv_imul hx hb dX5_token_212 ?_
          refine lv_aload_n hx hb dX5_token_213 rfl (lv_at hl 0 rfl) ?_
          refine gf_RX5_7 X hK hP 0 rfl rfl dX5_token_214 ?_
          refine lv_aload_n hx hb dX5_token_217 rfl (lv_at hl 0 rfl) ?_
          refine gf_RX5_56 X hK hP 0 rfl rfl dX5_token_218 ?_
          obtain ⟨g_6, hf⟩ := og hf
          refine iald X hK hP 1 rfl _ rfl g_6 dX5_token_221 ?_
          refine lv_iadd hx hb dX5_token_222 ?_
          refine lv_bipush (v := (48 : Int32)) hx hb dX5_token_223 (by decide) ?_
          refine lv_isub hx hb dX5_token_225 ?_
          exact b_X5_token_226 E p_this p_text p_told p_draft p_s p_images p_kept p_notes p_held p_soonest v_trace v_typed v_noted v_vanillaIn f_text res X hK hA hret  (f_X5_token_170 v_typed f_text   n) ih v_at v_sort v_start v_value x1 ((((10 : Int32) * v_value) + (f_text v_at.toNatClampNeg)) - (48 : Int32)) hf H locs ls (lv_sub hl [0, 1] rfl) hP hD hS
        · replace hf := of c_5 hf
          exact b_X5_token_200 E p_this p_text p_told p_draft p_s p_images p_kept p_notes p_held p_soonest v_trace v_typed v_noted v_vanillaIn f_text res X hK hA hret  (f_X5_token_170 v_typed f_text   n) ih v_at v_sort v_start v_value x1 hf H locs ls (lv_sub hl [0, 1] rfl) hP hD hS

set_option maxHeartbeats 4000000 in
set_option maxRecDepth 100000 in
theorem b_X5_token_154 {p : Program} {l : Launch} {e : Env} {s : State} {m : MethodId} {args : Array Value} {below : List Frame} {meth : Method} {c : Code} {Q : State → Prop} {A : Nat → Prop} (E : Ev) (p_this : Nat) (p_text : Nat) (p_told : Nat) (p_draft : Nat) (p_s : Nat) (p_images : Nat) (p_kept : Nat) (p_notes : Nat) (p_held : Nat) (p_soonest : Nat) (v_trace : Int64) (v_typed : Int32) (v_noted : Int32) (v_vanillaIn : Int32) (f_text : Nat → Int32) (res : Int32 × Int32 × Int32 × Int32) (X : Cx p s m args meth c cX5_token 2 RX5 none) (hK : KK E A s s.heap) (hA : ∀ q, s.heap.size ≤ q → A q) (hret : RetV p l e (RM 3) s m args below meth c Q E A cX5_token (w_X5_token E p_this p_text p_told p_draft p_s p_images p_kept p_notes p_held p_soonest v_trace v_typed v_noted res.1 res.2.1 res.2.2.1 res.2.2.2 v_vanillaIn f_text))  (v_at : Int32) (v_sort : Int32) (v_start : Int32) (v_value : Int32) (x1 : Int32) (hf : f_X5_token_154 v_typed f_text   v_at v_sort v_start v_value x1 = some res) : ∀ (H : Heap) (locs : List Loc) (ls : Array Slot), lv_has ls 2 [(0, .ref p_this), (1, .int x1)] → va_P E.1 classes (w_X5_token E p_this p_text p_told p_draft p_s p_images p_kept p_notes p_held p_soonest v_trace v_typed v_noted v_at v_sort v_start v_value v_vanillaIn f_text) H → va_D A (w_X5_token E p_this p_text p_told p_draft p_s p_images p_kept p_notes p_held p_soonest v_trace v_typed v_noted v_at v_sort v_start v_value v_vanillaIn f_text) → va_S A s.heap H locs → W p l e (RM 3) s m args below meth c H locs 0 0 Q (F0 m 154 ls []) := by
  obtain ⟨hx, hb, hml, hown, hts, hrt, hlk⟩ := id X
  intro H locs ls hl hP hD hS
  unfold f_X5_token_154 at hf
  refine lv_aload_n hx hb dX5_token_154 rfl (lv_at hl 0 rfl) ?_
  refine gf_RX5_73 X hK hP 0 rfl rfl dX5_token_155 ?_
  refine lv_iconst (v := (2 : Int32)) hx hb dX5_token_158 (by decide) ?_
  refine lv_icmp_ne (tgt := 242) hx hb dX5_token_159 (by decide) (fun c_1 => ?_) (fun c_1 => ?_)
  · replace hf := of c_1 hf
    obtain rfl := Option.some.inj hf
    exact hret H locs _ ls hP hS dX5_token_242
  · replace hf := ot c_1 hf
    refine lv_aload_n hx hb dX5_token_162 rfl (lv_at hl 0 rfl) ?_
    refine lv_iload_n hx hb dX5_token_163 rfl (lv_at hl 1 rfl) ?_
    refine lv_bipush (v := (48 : Int32)) hx hb dX5_token_164 (by decide) ?_
    refine lv_isub hx hb dX5_token_166 ?_
    refine pf_RX5_76 X hK hP hD hS 0 rfl rfl dX5_token_167 (fun H locs hP hD hS => ?_)
    have hP : va_P E.1 classes (w_X5_token E p_this p_text p_told p_draft p_s p_images p_kept p_notes p_held p_soonest v_trace v_typed v_noted v_at v_sort v_start (x1 - (48 : Int32)) v_vanillaIn f_text) H := hP
    have hD : va_D A (w_X5_token E p_this p_text p_told p_draft p_s p_images p_kept p_notes p_held p_soonest v_trace v_typed v_noted v_at v_sort v_start (x1 - (48 : Int32)) v_vanillaIn f_text) := hD
    exact b_X5_token_170 E p_this p_text p_told p_draft p_s p_images p_kept p_notes p_held p_soonest v_trace v_typed v_noted v_vanillaIn f_text res X hK hA hret   FU v_at v_sort v_start (x1 - (48 : Int32)) x1 hf H locs ls (lv_sub hl [0, 1] rfl) hP hD hS

set_option maxHeartbeats 4000000 in
set_option maxRecDepth 100000 in
theorem b_X5_token_114 {p : Program} {l : Launch} {e : Env} {s : State} {m : MethodId} {args : Array Value} {below : List Frame} {meth : Method} {c : Code} {Q : State → Prop} {A : Nat → Prop} (E : Ev) (p_this : Nat) (p_text : Nat) (p_told : Nat) (p_draft : Nat) (p_s : Nat) (p_images : Nat) (p_kept : Nat) (p_notes : Nat) (p_held : Nat) (p_soonest : Nat) (v_trace : Int64) (v_typed : Int32) (v_noted : Int32) (v_vanillaIn : Int32) (f_text : Nat → Int32) (res : Int32 × Int32 × Int32 × Int32) (X : Cx p s m args meth c cX5_token 2 RX5 none) (hK : KK E A s s.heap) (hA : ∀ q, s.heap.size ≤ q → A q) (hret : RetV p l e (RM 3) s m args below meth c Q E A cX5_token (w_X5_token E p_this p_text p_told p_draft p_s p_images p_kept p_notes p_held p_soonest v_trace v_typed v_noted res.1 res.2.1 res.2.2.1 res.2.2.2 v_vanillaIn f_text))  : ∀ (n : Nat) (v_at : Int32) (v_sort : Int32) (v_start : Int32) (v_value : Int32) (x1 : Int32), f_X5_token_114 v_typed f_text   n v_at v_sort v_start v_value x1 = some res → ∀ (H : Heap) (locs : List Loc) (ls : Array Slot), lv_has ls 2 [(0, .ref p_this), (1, .int x1)] → va_P E.1 classes (w_X5_token E p_this p_text p_told p_draft p_s p_images p_kept p_notes p_held p_soonest v_trace v_typed v_noted v_at v_sort v_start v_value v_vanillaIn f_text) H → va_D A (w_X5_token E p_this p_text p_told p_draft p_s p_images p_kept p_notes p_held p_soonest v_trace v_typed v_noted v_at v_sort v_start v_value v_vanillaIn f_text) → va_S A s.heap H locs → W p l e (RM 3) s m args below meth c H locs 0 0 Q (F0 m 114 ls []) := by
  obtain ⟨hx, hb, hml, hown, hts, hrt, hlk⟩ := id X
  intro n
  induction n with
  | zero => intro v_at v_sort v_start v_value x1 hf; exact absurd hf (by simp [f_X5_token_114])
  | succ n ih =>
    intro v_at v_sort v_start v_value x1 hf H locs ls hl hP hD hS
    unfold f_X5_token_114 at hf
    refine lv_aload_n hx hb dX5_token_114 rfl (lv_at hl 0 rfl) ?_
    refine gf_RX5_73 X hK hP 0 rfl rfl dX5_token_115 ?_
    refine lv_iconst (v := (1 : Int32)) hx hb dX5_token_118 (by decide) ?_
    refine lv_icmp_ne (tgt := 154) hx hb dX5_token_119 (by decide) (fun c_1 => ?_) (fun c_1 => ?_)
    · replace hf := of c_1 hf
      exact b_X5_token_154 E p_this p_text p_told p_draft p_s p_images p_kept p_notes p_held p_soonest v_trace v_typed v_noted v_vanillaIn f_text res X hK hA hret   v_at v_sort v_start v_value x1 hf H locs ls (lv_sub hl [0, 1] rfl) hP hD hS
    · replace hf := ot c_1 hf
      refine lv_aload_n hx hb dX5_token_122 rfl (lv_at hl 0 rfl) ?_
      refine lv_aload_n hx hb dX5_token_123 rfl (lv_at hl 0 rfl) ?_
      refine gf_RX5_56 X hK hP 0 rfl rfl dX5_token_124 ?_
      obtain ⟨u_2, hu_2, hf⟩ := ob hf
      refine pV X hK hA hP hS hl.1 (m_X5_letterAt (l := l) E p_this p_text p_told p_draft p_s p_images p_kept p_notes p_held p_soonest v_trace v_typed v_noted v_at v_sort v_start v_value v_vanillaIn f_text v_at u_2 hu_2) kRX5_59 [0, 1] rfl rfl rfl rfl ⟨⟨(Nat.le_of_ble_eq_true rfl), (Nat.le_of_ble_eq_true rfl)⟩, Nat.zero_le _, Nat.zero_le _⟩ rfl rfl (Nat.le_of_ble_eq_true rfl) dX5_token_127 (fun H locs hP hS => ?_)
      obtain ⟨u_3, hu_3, hf⟩ := ob hf
      refine pS X hK hA hP hS hl.1 (m_X5_isLetter (l := l) E   u_2 u_3 hu_3) kRX5_66 ⟨⟨(Nat.le_of_ble_eq_true rfl), (Nat.le_of_ble_eq_true rfl)⟩, Nat.zero_le _, Nat.zero_le _⟩ rfl rfl (Nat.le_of_ble_eq_true rfl) dX5_token_130 (fun H locs hP hS => ?_)
      refine lv_if_eq (tgt := 154) hx hb dX5_token_133 (by decide) (fun c_4 => ?_) (fun c_4 => ?_)
      · replace hf := ot c_4 hf
        exact b_X5_token_154 E p_this p_text p_told p_draft p_s p_images p_kept p_notes p_held p_soonest v_trace v_typed v_noted v_vanillaIn f_text res X hK hA hret   v_at v_sort v_start v_value x1 hf H locs ls (lv_sub hl [0, 1] rfl) hP hD hS
      · replace hf := of c_4 hf
        refine lv_aload_n hx hb dX5_token_136 rfl (lv_at hl 0 rfl) ?_
        refine lv_iconst (v := (0 : Int32)) hx hb dX5_token_137 (by decide) ?_
        refine pf_RX5_76 X hK hP hD hS 0 rfl rfl dX5_token_138 (fun H locs hP hD hS => ?_)
        have hP : va_P E.1 classes (w_X5_token E p_this p_text p_told p_draft p_s p_images p_kept p_notes p_held p_soonest v_trace v_typed v_noted v_at v_sort v_start (0 : Int32) v_vanillaIn f_text) H := hP
        have hD : va_D A (w_X5_token E p_this p_text p_told p_draft p_s p_images p_kept p_notes p_held p_soonest v_trace v_typed v_noted v_at v_sort v_start (0 : Int32) v_vanillaIn f_text) := hD
        refine lv_aload_n hx hb dX5_token_141 rfl (lv_at hl 0 rfl) ?_
        refine lv_dup hx hb dX5_token_142 rfl ?_
        refine gf_RX5_56 X hK hP 0 rfl rfl dX5_token_143 ?_
        refine lv_iconst (v := (1 : Int32)) hx hb dX5_token_146 (by decide) ?_
        refine lv_iadd hx hb dX5_token_147 ?_
        refine pf_RX5_56 X hK hP hD hS 0 rfl rfl dX5_token_148 (fun H locs hP hD hS => ?_)
        have hP : va_P E.1 classes (w_X5_token E p_this p_text p_told p_draft p_s p_images p_kept p_notes p_held p_soonest v_trace v_typed v_noted (v_at + (1 : Int32)) v_sort v_start (0 : Int32) v_vanillaIn f_text) H := hP
        have hD : va_D A (w_X5_token E p_this p_text p_told p_draft p_s p_images p_kept p_notes p_held p_soonest v_trace v_typed v_noted (v_at + (1 : Int32)) v_sort v_start (0 : Int32) v_vanillaIn f_text) := hD
        refine lv_goto (tgt := 114) hx hb dX5_token_151 (by decide) ?_
        exact ih (v_at + (1 : Int32)) v_sort v_start (0 : Int32) x1 hf H locs ls (lv_sub hl [0, 1] rfl) hP hD hS

set_option maxHeartbeats 4000000 in
set_option maxRecDepth 100000 in
theorem b_X5_token_110 {p : Program} {l : Launch} {e : Env} {s : State} {m : MethodId} {args : Array Value} {below : List Frame} {meth : Method} {c : Code} {Q : State → Prop} {A : Nat → Prop} (E : Ev) (p_this : Nat) (p_text : Nat) (p_told : Nat) (p_draft : Nat) (p_s : Nat) (p_images : Nat) (p_kept : Nat) (p_notes : Nat) (p_held : Nat) (p_soonest : Nat) (v_trace : Int64) (v_typed : Int32) (v_noted : Int32) (v_vanillaIn : Int32) (f_text : Nat → Int32) (res : Int32 × Int32 × Int32 × Int32) (X : Cx p s m args meth c cX5_token 2 RX5 none) (hK : KK E A s s.heap) (hA : ∀ q, s.heap.size ≤ q → A q) (hret : RetV p l e (RM 3) s m args below meth c Q E A cX5_token (w_X5_token E p_this p_text p_told p_draft p_s p_images p_kept p_notes p_held p_soonest v_trace v_typed v_noted res.1 res.2.1 res.2.2.1 res.2.2.2 v_vanillaIn f_text))  (v_at : Int32) (v_sort : Int32) (v_start : Int32) (v_value : Int32) (x1 : Int32) (k0 : Int32) (k1 : Int32) (hf : f_X5_token_110 v_typed f_text   v_at v_sort v_start v_value x1 k0 k1 = some res) : ∀ (H : Heap) (locs : List Loc) (ls : Array Slot), lv_has ls 2 [(0, .ref p_this), (1, .int x1)] → va_P E.1 classes (w_X5_token E p_this p_text p_told p_draft p_s p_images p_kept p_notes p_held p_soonest v_trace v_typed v_noted v_at v_sort v_start v_value v_vanillaIn f_text) H → va_D A (w_X5_token E p_this p_text p_told p_draft p_s p_images p_kept p_notes p_held p_soonest v_trace v_typed v_noted v_at v_sort v_start v_value v_vanillaIn f_text) → va_S A s.heap H locs → W p l e (RM 3) s m args below meth c H locs 0 0 Q (F0 m 110 ls [.int k0, .int k1, .ref p_this]) := by
  obtain ⟨hx, hb, hml, hown, hts, hrt, hlk⟩ := id X
  intro H locs ls hl hP hD hS
  unfold f_X5_token_110 at hf
  refine lv_iadd hx hb dX5_token_110 ?_
  refine pf_RX5_56 X hK hP hD hS 0 rfl rfl dX5_token_111 (fun H locs hP hD hS => ?_)
  have hP : va_P E.1 classes (w_X5_token E p_this p_text p_told p_draft p_s p_images p_kept p_notes p_held p_soonest v_trace v_typed v_noted (k1 + k0) v_sort v_start v_value v_vanillaIn f_text) H := hP
  have hD : va_D A (w_X5_token E p_this p_text p_told p_draft p_s p_images p_kept p_notes p_held p_soonest v_trace v_typed v_noted (k1 + k0) v_sort v_start v_value v_vanillaIn f_text) := hD
  exact b_X5_token_114 E p_this p_text p_told p_draft p_s p_images p_kept p_notes p_held p_soonest v_trace v_typed v_noted v_vanillaIn f_text res X hK hA hret   FU (k1 + k0) v_sort v_start v_value x1 hf H locs ls (lv_sub hl [0, 1] rfl) hP hD hS

set_option maxHeartbeats 4000000 in
set_option maxRecDepth 100000 in
theorem b_X5_token_85 {p : Program} {l : Launch} {e : Env} {s : State} {m : MethodId} {args : Array Value} {below : List Frame} {meth : Method} {c : Code} {Q : State → Prop} {A : Nat → Prop} (E : Ev) (p_this : Nat) (p_text : Nat) (p_told : Nat) (p_draft : Nat) (p_s : Nat) (p_images : Nat) (p_kept : Nat) (p_notes : Nat) (p_held : Nat) (p_soonest : Nat) (v_trace : Int64) (v_typed : Int32) (v_noted : Int32) (v_vanillaIn : Int32) (f_text : Nat → Int32) (res : Int32 × Int32 × Int32 × Int32) (X : Cx p s m args meth c cX5_token 2 RX5 none) (hK : KK E A s s.heap) (hA : ∀ q, s.heap.size ≤ q → A q) (hret : RetV p l e (RM 3) s m args below meth c Q E A cX5_token (w_X5_token E p_this p_text p_told p_draft p_s p_images p_kept p_notes p_held p_soonest v_trace v_typed v_noted res.1 res.2.1 res.2.2.1 res.2.2.2 v_vanillaIn f_text))  (v_at : Int32) (v_sort : Int32) (v_start : Int32) (v_value : Int32) (x1 : Int32) (k0 : Int32) (hf : f_X5_token_85 v_typed f_text   v_at v_sort v_start v_value x1 k0 = some res) : ∀ (H : Heap) (locs : List Loc) (ls : Array Slot), lv_has ls 2 [(0, .ref p_this), (1, .int x1)] → va_P E.1 classes (w_X5_token E p_this p_text p_told p_draft p_s p_images p_kept p_notes p_held p_soonest v_trace v_typed v_noted v_at v_sort v_start v_value v_vanillaIn f_text) H → va_D A (w_X5_token E p_this p_text p_told p_draft p_s p_images p_kept p_notes p_held p_soonest v_trace v_typed v_noted v_at v_sort v_start v_value v_vanillaIn f_text) → va_S A s.heap H locs → W p l e (RM 3) s m args below meth c H locs 0 0 Q (F0 m 85 ls [.int k0, .ref p_this]) := by
  obtain ⟨hx, hb, hml, hown, hts, hrt, hlk⟩ := id X
  intro H locs ls hl hP hD hS
  unfold f_X5_token_85 at hf
  refine pf_RX5_73 X hK hP hD hS 0 rfl rfl dX5_token_85 (fun H locs hP hD hS => ?_)
  have hP : va_P E.1 classes (w_X5_token E p_this p_text p_told p_draft p_s p_images p_kept p_notes p_held p_soonest v_trace v_typed v_noted v_at k0 v_start v_value v_vanillaIn f_text) H := hP
  have hD : va_D A (w_X5_token E p_this p_text p_told p_draft p_s p_images p_kept p_notes p_held p_soonest v_trace v_typed v_noted v_at k0 v_start v_value v_vanillaIn f_text) := hD
  refine lv_aload_n hx hb dX5_token_88 rfl (lv_at hl 0 rfl) ?_
  refine lv_iload_n hx hb dX5_token_89 rfl (lv_at hl 1 rfl) ?_
  refine pf_RX5_76 X hK hP hD hS 0 rfl rfl dX5_token_90 (fun H locs hP hD hS => ?_)
  have hP : va_P E.1 classes (w_X5_token E p_this p_text p_told p_draft p_s p_images p_kept p_notes p_held p_soonest v_trace v_typed v_noted v_at k0 v_start x1 v_vanillaIn f_text) H := hP
  have hD : va_D A (w_X5_token E p_this p_text p_told p_draft p_s p_images p_kept p_notes p_held p_soonest v_trace v_typed v_noted v_at k0 v_start x1 v_vanillaIn f_text) := hD
  refine lv_aload_n hx hb dX5_token_93 rfl (lv_at hl 0 rfl) ?_
  refine lv_dup hx hb dX5_token_94 rfl ?_
  refine gf_RX5_56 X hK hP 0 rfl rfl dX5_token_95 ?_
  refine lv_aload_n hx hb dX5_token_98 rfl (lv_at hl 0 rfl) ?_
  refine gf_RX5_73 X hK hP 0 rfl rfl dX5_token_99 ?_
  refine lv_if_ne (tgt := 109) hx hb dX5_token_102 (by decide) (fun c_1 => ?_) (fun c_1 => ?_)
  · replace hf := of c_1 hf
    refine lv_iconst (v := (1 : Int32)) hx hb dX5_token_109 (by decide) ?_
    exact b_X5_token_110 E p_this p_text p_told p_draft p_s p_images p_kept p_notes p_held p_soonest v_trace v_typed v_noted v_vanillaIn f_text res X hK hA hret   v_at k0 v_start x1 x1 (1 : Int32) v_at hf H locs ls (lv_sub hl [0, 1] rfl) hP hD hS
  · replace hf := ot c_1 hf
    refine lv_iconst (v := (0 : Int32)) hx hb dX5_token_105 (by decide) ?_
    refine lv_goto (tgt := 110) hx hb dX5_token_106 (by decide) ?_
    exact b_X5_token_110 E p_this p_text p_told p_draft p_s p_images p_kept p_notes p_held p_soonest v_trace v_typed v_noted v_vanillaIn f_text res X hK hA hret   v_at k0 v_start x1 x1 (0 : Int32) v_at hf H locs ls (lv_sub hl [0, 1] rfl) hP hD hS

set_option maxHeartbeats 4000000 in
set_option maxRecDepth 100000 in
theorem b_X5_token_0 {p : Program} {l : Launch} {e : Env} {s : State} {m : MethodId} {args : Array Value} {below : List Frame} {meth : Method} {c : Code} {Q : State → Prop} {A : Nat → Prop} (E : Ev) (p_this : Nat) (p_text : Nat) (p_told : Nat) (p_draft : Nat) (p_s : Nat) (p_images : Nat) (p_kept : Nat) (p_notes : Nat) (p_held : Nat) (p_soonest : Nat) (v_trace : Int64) (v_typed : Int32) (v_noted : Int32) (v_vanillaIn : Int32) (f_text : Nat → Int32) (res : Int32 × Int32 × Int32 × Int32) (X : Cx p s m args meth c cX5_token 2 RX5 none) (hK : KK E A s s.heap) (hA : ∀ q, s.heap.size ≤ q → A q) (hret : RetV p l e (RM 3) s m args below meth c Q E A cX5_token (w_X5_token E p_this p_text p_told p_draft p_s p_images p_kept p_notes p_held p_soonest v_trace v_typed v_noted res.1 res.2.1 res.2.2.1 res.2.2.2 v_vanillaIn f_text))  : ∀ (n : Nat) (v_at : Int32) (v_sort : Int32) (v_start : Int32) (v_value : Int32), f_X5_token_0 v_typed f_text   n v_at v_sort v_start v_value = some res → ∀ (H : Heap) (locs : List Loc) (ls : Array Slot), lv_has ls 2 [(0, .ref p_this)] → va_P E.1 classes (w_X5_token E p_this p_text p_told p_draft p_s p_images p_kept p_notes p_held p_soonest v_trace v_typed v_noted v_at v_sort v_start v_value v_vanillaIn f_text) H → va_D A (w_X5_token E p_this p_text p_told p_draft p_s p_images p_kept p_notes p_held p_soonest v_trace v_typed v_noted v_at v_sort v_start v_value v_vanillaIn f_text) → va_S A s.heap H locs → W p l e (RM 3) s m args below meth c H locs 0 0 Q (F0 m 0 ls []) := by
  obtain ⟨hx, hb, hml, hown, hts, hrt, hlk⟩ := id X
  intro n
  induction n with
  | zero => intro v_at v_sort v_start v_value hf; exact absurd hf (by simp [f_X5_token_0])
  | succ n ih =>
    intro v_at v_sort v_start v_value hf H locs ls hl hP hD hS
    unfold f_X5_token_0 at hf
    refine lv_aload_n hx hb dX5_token_0 rfl (lv_at hl 0 rfl) ?_
    refine lv_aload_n hx hb dX5_token_1 rfl (lv_at hl 0 rfl) ?_
    refine gf_RX5_56 X hK hP 0 rfl rfl dX5_token_2 ?_
    obtain ⟨u_1, hu_1, hf⟩ := ob hf
    refine pV X hK hA hP hS hl.1 (m_X5_letterAt (l := l) E p_this p_text p_told p_draft p_s p_images p_kept p_notes p_held p_soonest v_trace v_typed v_noted v_at v_sort v_start v_value v_vanillaIn f_text v_at u_1 hu_1) kRX5_59 [0, 1] rfl rfl rfl rfl ⟨⟨(Nat.le_of_ble_eq_true rfl), (Nat.le_of_ble_eq_true rfl)⟩, Nat.zero_le _, Nat.zero_le _⟩ rfl rfl (Nat.le_of_ble_eq_true rfl) dX5_token_5 (fun H locs hP hS => ?_)
    refine lv_bipush (v := (32 : Int32)) hx hb dX5_token_8 (by decide) ?_
    refine lv_icmp_ne (tgt := 26) hx hb dX5_token_10 (by decide) (fun c_2 => ?_) (fun c_2 => ?_)
    · replace hf := of c_2 hf
      refine lv_aload_n hx hb dX5_token_26 rfl (lv_at hl 0 rfl) ?_
      refine lv_aload_n hx hb dX5_token_27 rfl (lv_at hl 0 rfl) ?_
      refine gf_RX5_56 X hK hP 0 rfl rfl dX5_token_28 ?_
      refine pf_RX5_63 X hK hP hD hS 0 rfl rfl dX5_token_31 (fun H locs hP hD hS => ?_)
      have hP : va_P E.1 classes (w_X5_token E p_this p_text p_told p_draft p_s p_images p_kept p_notes p_held p_soonest v_trace v_typed v_noted v_at v_sort v_at v_value v_vanillaIn f_text) H := hP
      have hD : va_D A (w_X5_token E p_this p_text p_told p_draft p_s p_images p_kept p_notes p_held p_soonest v_trace v_typed v_noted v_at v_sort v_at v_value v_vanillaIn f_text) := hD
      refine lv_aload_n hx hb dX5_token_34 rfl (lv_at hl 0 rfl) ?_
      refine lv_aload_n hx hb dX5_token_35 rfl (lv_at hl 0 rfl) ?_
      refine gf_RX5_56 X hK hP 0 rfl rfl dX5_token_36 ?_
      obtain ⟨u_3, hu_3, hf⟩ := ob hf
      refine pV X hK hA hP hS hl.1 (m_X5_letterAt (l := l) E p_this p_text p_told p_draft p_s p_images p_kept p_notes p_held p_soonest v_trace v_typed v_noted v_at v_sort v_at v_value v_vanillaIn f_text v_at u_3 hu_3) kRX5_59 [0, 1] rfl rfl rfl rfl ⟨⟨(Nat.le_of_ble_eq_true rfl), (Nat.le_of_ble_eq_true rfl)⟩, Nat.zero_le _, Nat.zero_le _⟩ rfl rfl (Nat.le_of_ble_eq_true rfl) dX5_token_39 (fun H locs hP hS => ?_)
      refine lv_istore_n (lv' := [(1, .int u_3), (0, .ref p_this)]) hx hb dX5_token_42 rfl hl (by decide) rfl (fun ls hl => ?_)
      refine lv_aload_n hx hb dX5_token_43 rfl (lv_at hl 1 rfl) ?_
      refine lv_iload_n hx hb dX5_token_44 rfl (lv_at hl 0 rfl) ?_
      refine lv_if_ge (tgt := 52) hx hb dX5_token_45 (by decide) (fun c_4 => ?_) (fun c_4 => ?_)
      · replace hf := ot c_4 hf
        refine lv_iload_n hx hb dX5_token_52 rfl (lv_at hl 0 rfl) ?_
        obtain ⟨u_5, hu_5, hf⟩ := ob hf
        refine pS X hK hA hP hS hl.1 (m_X5_isLetter (l := l) E   u_3 u_5 hu_5) kRX5_66 ⟨⟨(Nat.le_of_ble_eq_true rfl), (Nat.le_of_ble_eq_true rfl)⟩, Nat.zero_le _, Nat.zero_le _⟩ rfl rfl (Nat.le_of_ble_eq_true rfl) dX5_token_53 (fun H locs hP hS => ?_)
        refine lv_if_eq (tgt := 63) hx hb dX5_token_56 (by decide) (fun c_6 => ?_) (fun c_6 => ?_)
        · replace hf := ot c_6 hf
          refine lv_iload_n hx hb dX5_token_63 rfl (lv_at hl 0 rfl) ?_
          obtain ⟨u_7, hu_7, hf⟩ := ob hf
          refine pS X hK hA hP hS hl.1 (m_X5_isDigit (l := l) E   u_3 u_7 hu_7) kRX5_70 ⟨⟨(Nat.le_of_ble_eq_true rfl), (Nat.le_of_ble_eq_true rfl)⟩, Nat.zero_le _, Nat.zero_le _⟩ rfl rfl (Nat.le_of_ble_eq_true rfl) dX5_token_64 (fun H locs hP hS => ?_)
          refine lv_if_eq (tgt := 74) hx hb dX5_token_67 (by decide) (fun c_8 => ?_) (fun c_8 => ?_)
          · replace hf := ot c_8 hf
            refine lv_iload_n hx hb dX5_token_74 rfl (lv_at hl 0 rfl) ?_
            refine lv_bipush (v := (59 : Int32)) hx hb dX5_token_75 (by decide) ?_
            refine lv_icmp_ne (tgt := 84) hx hb dX5_token_77 (by decide) (fun c_9 => ?_) (fun c_9 => ?_)
            · replace hf := of c_9 hf
              refine lv_iconst (v := (4 : Int32)) hx hb dX5_token_84 (by decide) ?_
              exact b_X5_token_85 E p_this p_text p_told p_draft p_s p_images p_kept p_notes p_held p_soonest v_trace v_typed v_noted v_vanillaIn f_text res X hK hA hret   v_at v_sort v_at v_value u_3 (4 : Int32) hf H locs ls (lv_sub hl [1, 0] rfl) hP hD hS
            · replace hf := ot c_9 hf
              refine lv_iconst (v := (3 : Int32)) hx hb dX5_token_80 (by decide) ?_
              refine lv_goto (tgt := 85) hx hb dX5_token_81 (by decide) ?_
              exact b_X5_token_85 E p_this p_text p_told p_draft p_s p_images p_kept p_notes p_held p_soonest v_trace v_typed v_noted v_vanillaIn f_text res X hK hA hret   v_at v_sort v_at v_value u_3 (3 : Int32) hf H locs ls (lv_sub hl [1, 0] rfl) hP hD hS
          · replace hf := of c_8 hf
            refine lv_iconst (v := (2 : Int32)) hx hb dX5_token_70 (by decide) ?_
            refine lv_goto (tgt := 85) hx hb dX5_token_71 (by decide) ?_
            exact b_X5_token_85 E p_this p_text p_told p_draft p_s p_images p_kept p_notes p_held p_soonest v_trace v_typed v_noted v_vanillaIn f_text res X hK hA hret   v_at v_sort v_at v_value u_3 (2 : Int32) hf H locs ls (lv_sub hl [1, 0] rfl) hP hD hS
        · replace hf := of c_6 hf
          refine lv_iconst (v := (1 : Int32)) hx hb dX5_token_59 (by decide) ?_
          refine lv_goto (tgt := 85) hx hb dX5_token_60 (by decide) ?_
          exact b_X5_token_85 E p_this p_text p_told p_draft p_s p_images p_kept p_notes p_held p_soonest v_trace v_typed v_noted v_vanillaIn f_text res X hK hA hret   v_at v_sort v_at v_value u_3 (1 : Int32) hf H locs ls (lv_sub hl [1, 0] rfl) hP hD hS
      · replace hf := of c_4 hf
        refine lv_iconst (v := (0 : Int32)) hx hb dX5_token_48 (by decide) ?_
        refine lv_goto (tgt := 85) hx hb dX5_token_49 (by decide) ?_
        exact b_X5_token_85 E p_this p_text p_told p_draft p_s p_images p_kept p_notes p_held p_soonest v_trace v_typed v_noted v_vanillaIn f_text res X hK hA hret   v_at v_sort v_at v_value u_3 (0 : Int32) hf H locs ls (lv_sub hl [1, 0] rfl) hP hD hS
    · replace hf := ot c_2 hf
      refine lv_aload_n hx hb dX5_token_13 rfl (lv_at hl 0 rfl) ?_
      refine lv_dup hx hb dX5_token_14 rfl ?_
      refine gf_RX5_56 X hK hP 0 rfl rfl dX5_token_15 ?_
      refine lv_iconst (v := (1 : Int32)) hx hb dX5_token_18 (by decide) ?_
      refine lv_iadd hx hb dX5_token_19 ?_
      refine pf_RX5_56 X hK hP hD hS 0 rfl rfl dX5_token_20 (fun H locs hP hD hS => ?_)
      have hP : va_P E.1 classes (w_X5_token E p_this p_text p_told p_draft p_s p_images p_kept p_notes p_held p_soonest v_trace v_typed v_noted (v_at + (1 : Int32)) v_sort v_start v_value v_vanillaIn f_text) H := hP
      have hD : va_D A (w_X5_token E p_this p_text p_told p_draft p_s p_images p_kept p_notes p_held p_soonest v_trace v_typed v_noted (v_at + (1 : Int32)) v_sort v_start v_value v_vanillaIn f_text) := hD
      refine lv_goto (tgt := 0) hx hb dX5_token_23 (by decide) ?_
      exact ih (v_at + (1 : Int32)) v_sort v_start v_value hf H locs ls (lv_sub hl [0] rfl) hP hD hS

set_option maxHeartbeats 4000000 in
set_option maxRecDepth 100000 in
theorem m_X5_token {l : Launch} (E : Ev) (p_this : Nat) (p_text : Nat) (p_told : Nat) (p_draft : Nat) (p_s : Nat) (p_images : Nat) (p_kept : Nat) (p_notes : Nat) (p_held : Nat) (p_soonest : Nat) (v_trace : Int64) (v_typed : Int32) (v_noted : Int32) (v_at : Int32) (v_sort : Int32) (v_start : Int32) (v_value : Int32) (v_vanillaIn : Int32) (f_text : Nat → Int32)  (res : Int32 × Int32 × Int32 × Int32) (hf : f_X5_token  v_typed f_text v_at v_sort v_start v_value  = some res) : MutV l E 3 yX5_token cX5_token 2 [.ref p_this] (w_X5_token E p_this p_text p_told p_draft p_s p_images p_kept p_notes p_held p_soonest v_trace v_typed v_noted v_at v_sort v_start v_value v_vanillaIn f_text) (w_X5_token E p_this p_text p_told p_draft p_s p_images p_kept p_notes p_held p_soonest v_trace v_typed v_noted res.1 res.2.1 res.2.2.1 res.2.2.2 v_vanillaIn f_text) := by
  refine MutV.of (by decide) (Nat.le_of_ble_eq_true rfl) ?_
  intro p e s m args below meth c Q A X hK hA hret H locs ls hl hP hD hS
  obtain ⟨hx, hb, hml, hown, hts, hrt, hlk⟩ := id X
  have hl : lv_has ls 2 [(0, .ref p_this)] := hl
  unfold f_X5_token at hf
  exact b_X5_token_0 E p_this p_text p_told p_draft p_s p_images p_kept p_notes p_held p_soonest v_trace v_typed v_noted v_vanillaIn f_text res X hK hA hret   FU v_at v_sort v_start v_value hf H locs ls (lv_sub hl [0] rfl) hP hD hS

abbrev w_X5_number (E : Ev) (p_this : Nat) (p_text : Nat) (p_told : Nat) (p_draft : Nat) (p_s : Nat) (p_images : Nat) (p_kept : Nat) (p_notes : Nat) (p_held : Nat) (p_soonest : Nat) (v_trace : Int64) (v_typed : Int32) (v_noted : Int32) (v_at : Int32) (v_sort : Int32) (v_start : Int32) (v_value : Int32) (v_vanillaIn : Int32) (f_text : Nat → Int32) (f_draft : Nat → Int32) : va_W := [(p_this, .inr (5, [.long v_trace, .ref p_text, .int v_typed, .ref p_told, .ref p_draft, .ref p_s, .ref p_images, .ref p_kept, .ref p_notes, .int v_noted, .int v_at, .int v_sort, .int v_start, .int v_value, .int v_vanillaIn, .ref p_held, .ref p_soonest])), (p_text, .inl (E.2.1, 180, .inl f_text)), (p_draft, .inl (E.2.1, 43, .inl f_draft))]
set_option maxHeartbeats 4000000 in
set_option maxRecDepth 100000 in
theorem m_X5_number {l : Launch} (E : Ev) (p_this : Nat) (p_text : Nat) (p_told : Nat) (p_draft : Nat) (p_s : Nat) (p_images : Nat) (p_kept : Nat) (p_notes : Nat) (p_held : Nat) (p_soonest : Nat) (v_trace : Int64) (v_typed : Int32) (v_noted : Int32) (v_at : Int32) (v_sort : Int32) (v_start : Int32) (v_value : Int32) (v_vanillaIn : Int32) (f_text : Nat → Int32) (f_draft : Nat → Int32) (x1 : Int32) (x2 : Int32) (x3 : Int32) (res : Int32 × Int32 × Int32 × Int32 × Int32 × (Nat → Int32)) (hf : f_X5_number  v_typed f_text v_at v_sort v_start v_value f_draft x1 x2 x3 = some res) : MutI l E 4 yX5_number cX5_number 4 .boolean [.ref p_this, .int x1, .int x2, .int x3] (w_X5_number E p_this p_text p_told p_draft p_s p_images p_kept p_notes p_held p_soonest v_trace v_typed v_noted v_at v_sort v_start v_value v_vanillaIn f_text f_draft) (w_X5_number E p_this p_text p_told p_draft p_s p_images p_kept p_notes p_held p_soonest v_trace v_typed v_noted res.2.1 res.2.2.1 res.2.2.2.1 res.2.2.2.2.1 v_vanillaIn f_text res.2.2.2.2.2) res.1 := by
  refine MutI.of (by decide) (Nat.le_of_ble_eq_true rfl) ?_
  intro p e s m args below meth c Q A X hK hA hret H locs ls hl hP hD hS
  obtain ⟨hx, hb, hml, hown, hts, hrt, hlk⟩ := id X
  have hl : lv_has ls 4 [(0, .ref p_this), (1, .int x1), (2, .int x2), (3, .int x3)] := hl
  unfold f_X5_number at hf
  refine lv_aload_n hx hb dX5_number_0 rfl (lv_at hl 0 rfl) ?_
  obtain ⟨u_1, hu_1, hf⟩ := ob hf
  refine mVv X hK hA hP hD hS hl.1 (m_X5_token (l := l) E p_this p_text p_told p_draft p_s p_images p_kept p_notes p_held p_soonest v_trace v_typed v_noted v_at v_sort v_start v_value v_vanillaIn f_text  u_1 hu_1) kRX5_79 [0, 1] rfl rfl (by simp only [w_X5_token, List.map]) rfl rfl rfl ⟨⟨(Nat.le_of_ble_eq_true rfl), (Nat.le_of_ble_eq_true rfl)⟩, Nat.zero_le _, Nat.zero_le _⟩ rfl rfl (Nat.le_of_ble_eq_true rfl) dX5_number_1 (fun H locs hP hD hS => ?_)
  have hP : va_P E.1 classes (w_X5_number E p_this p_text p_told p_draft p_s p_images p_kept p_notes p_held p_soonest v_trace v_typed v_noted u_1.1 u_1.2.1 u_1.2.2.1 u_1.2.2.2 v_vanillaIn f_text f_draft) H := hP
  have hD : va_D A (w_X5_number E p_this p_text p_told p_draft p_s p_images p_kept p_notes p_held p_soonest v_trace v_typed v_noted u_1.1 u_1.2.1 u_1.2.2.1 u_1.2.2.2 v_vanillaIn f_text f_draft) := hD
  refine lv_aload_n hx hb dX5_number_4 rfl (lv_at hl 0 rfl) ?_
  refine gf_RX5_16 X hK hP 0 rfl rfl dX5_number_5 ?_
  refine lv_iload_n hx hb dX5_number_8 rfl (lv_at hl 1 rfl) ?_
  refine lv_aload_n hx hb dX5_number_9 rfl (lv_at hl 0 rfl) ?_
  refine gf_RX5_76 X hK hP 0 rfl rfl dX5_number_10 ?_
  obtain ⟨g_2, hf⟩ := og hf
  refine iast X hK hP hD hS 2 rfl _ rfl g_2 dX5_number_13 (fun H locs hP hD hS => ?_)
  have hP : va_P E.1 classes (w_X5_number E p_this p_text p_told p_draft p_s p_images p_kept p_notes p_held p_soonest v_trace v_typed v_noted u_1.1 u_1.2.1 u_1.2.2.1 u_1.2.2.2 v_vanillaIn f_text (upd f_draft x1.toNatClampNeg u_1.2.2.2)) H := hP
  have hD : va_D A (w_X5_number E p_this p_text p_told p_draft p_s p_images p_kept p_notes p_held p_soonest v_trace v_typed v_noted u_1.1 u_1.2.1 u_1.2.2.1 u_1.2.2.2 v_vanillaIn f_text (upd f_draft x1.toNatClampNeg u_1.2.2.2)) := hD
  refine lv_aload_n hx hb dX5_number_14 rfl (lv_at hl 0 rfl) ?_
  refine gf_RX5_73 X hK hP 0 rfl rfl dX5_number_15 ?_
  refine lv_iconst (v := (2 : Int32)) hx hb dX5_number_18 (by decide) ?_
  refine lv_icmp_ne (tgt := 38) hx hb dX5_number_19 (by decide) (fun c_3 => ?_) (fun c_3 => ?_)
  · replace hf := of c_3 hf
    refine lv_iconst (v := (0 : Int32)) hx hb dX5_number_38 (by decide) ?_
    obtain rfl := Option.some.inj hf
    exact hret H locs _ ls nar0 hP hS dX5_number_39
  · replace hf := ot c_3 hf
    refine lv_aload_n hx hb dX5_number_22 rfl (lv_at hl 0 rfl) ?_
    refine gf_RX5_76 X hK hP 0 rfl rfl dX5_number_23 ?_
    refine lv_iload_n hx hb dX5_number_26 rfl (lv_at hl 2 rfl) ?_
    refine lv_iload_n hx hb dX5_number_27 rfl (lv_at hl 3 rfl) ?_
    obtain ⟨u_4, hu_4, hf⟩ := ob hf
    refine pS X hK hA hP hS hl.1 (m_X5_in (l := l) E   u_1.2.2.2 x2 x3 u_4 hu_4) kRX5_49 ⟨⟨(Nat.le_of_ble_eq_true rfl), (Nat.le_of_ble_eq_true rfl)⟩, Nat.zero_le _, Nat.zero_le _⟩ rfl rfl (Nat.le_of_ble_eq_true rfl) dX5_number_28 (fun H locs hP hS => ?_)
    refine lv_if_eq (tgt := 38) hx hb dX5_number_31 (by decide) (fun c_5 => ?_) (fun c_5 => ?_)
    · replace hf := ot c_5 hf
      refine lv_iconst (v := (0 : Int32)) hx hb dX5_number_38 (by decide) ?_
      obtain rfl := Option.some.inj hf
      exact hret H locs _ ls nar0 hP hS dX5_number_39
    · replace hf := of c_5 hf
      refine lv_iconst (v := (1 : Int32)) hx hb dX5_number_34 (by decide) ?_
      refine lv_goto (tgt := 39) hx hb dX5_number_35 (by decide) ?_
      obtain rfl := Option.some.inj hf
      exact hret H locs _ ls nar1 hP hS dX5_number_39

abbrev w_X5_readsItem (E : Ev) (p_this : Nat) (p_text : Nat) (p_told : Nat) (p_draft : Nat) (p_s : Nat) (p_images : Nat) (p_kept : Nat) (p_notes : Nat) (p_held : Nat) (p_soonest : Nat) (v_trace : Int64) (v_typed : Int32) (v_noted : Int32) (v_at : Int32) (v_sort : Int32) (v_start : Int32) (v_value : Int32) (v_vanillaIn : Int32) (f_draft : Nat → Int32) (f_text : Nat → Int32) : va_W := [(p_this, .inr (5, [.long v_trace, .ref p_text, .int v_typed, .ref p_told, .ref p_draft, .ref p_s, .ref p_images, .ref p_kept, .ref p_notes, .int v_noted, .int v_at, .int v_sort, .int v_start, .int v_value, .int v_vanillaIn, .ref p_held, .ref p_soonest])), (p_draft, .inl (E.2.1, 43, .inl f_draft)), (p_text, .inl (E.2.1, 180, .inl f_text))]
set_option maxHeartbeats 4000000 in
set_option maxRecDepth 100000 in
theorem b_X5_readsItem_38 {p : Program} {l : Launch} {e : Env} {s : State} {m : MethodId} {args : Array Value} {below : List Frame} {meth : Method} {c : Code} {Q : State → Prop} {A : Nat → Prop} (E : Ev) (p_this : Nat) (p_text : Nat) (p_told : Nat) (p_draft : Nat) (p_s : Nat) (p_images : Nat) (p_kept : Nat) (p_notes : Nat) (p_held : Nat) (p_soonest : Nat) (v_trace : Int64) (v_typed : Int32) (v_noted : Int32) (v_vanillaIn : Int32) (f_text : Nat → Int32) (res : Int32 × Int32 × Int32 × Int32 × Int32 × (Nat → Int32)) (X : Cx p s m args meth c cX5_readsItem 3 RX5 (some .boolean)) (hK : KK E A s s.heap) (hA : ∀ q, s.heap.size ≤ q → A q) (hret : RetI p l e (RM 5) s m args below meth c Q E A cX5_readsItem .boolean (w_X5_readsItem E p_this p_text p_told p_draft p_s p_images p_kept p_notes p_held p_soonest v_trace v_typed v_noted res.2.1 res.2.2.1 res.2.2.2.1 res.2.2.2.2.1 v_vanillaIn res.2.2.2.2.2 f_text) res.1)  (v_at : Int32) (v_sort : Int32) (v_start : Int32) (v_value : Int32) (f_draft : Nat → Int32) (x1 : Int32) (k0 : Int32) (hf : f_X5_readsItem_38 v_typed f_text   v_at v_sort v_start v_value f_draft x1 k0 = some res) : ∀ (H : Heap) (locs : List Loc) (ls : Array Slot), lv_has ls 3 [(0, .ref p_this), (1, .int x1)] → va_P E.1 classes (w_X5_readsItem E p_this p_text p_told p_draft p_s p_images p_kept p_notes p_held p_soonest v_trace v_typed v_noted v_at v_sort v_start v_value v_vanillaIn f_draft f_text) H → va_D A (w_X5_readsItem E p_this p_text p_told p_draft p_s p_images p_kept p_notes p_held p_soonest v_trace v_typed v_noted v_at v_sort v_start v_value v_vanillaIn f_draft f_text) → va_S A s.heap H locs → W p l e (RM 5) s m args below meth c H locs 0 0 Q (F0 m 38 ls [.int k0]) := by
  obtain ⟨hx, hb, hml, hown, hts, hrt, hlk⟩ := id X
  intro H locs ls hl hP hD hS
  unfold f_X5_readsItem_38 at hf
  refine lv_istore_n (lv' := [(2, .int k0), (0, .ref p_this), (1, .int x1)]) hx hb dX5_readsItem_38 rfl hl (by decide) rfl (fun ls hl => ?_)
  refine lv_iload_n hx hb dX5_readsItem_39 rfl (lv_at hl 2 rfl) ?_
  refine lv_bipush (v := (111 : Int32)) hx hb dX5_readsItem_40 (by decide) ?_
  refine lv_icmp_ne (tgt := 91) hx hb dX5_readsItem_42 (by decide) (fun c_1 => ?_) (fun c_1 => ?_)
  · replace hf := of c_1 hf
    refine lv_iload_n hx hb dX5_readsItem_91 rfl (lv_at hl 2 rfl) ?_
    refine lv_bipush (v := (100 : Int32)) hx hb dX5_readsItem_92 (by decide) ?_
    refine lv_icmp_ne (tgt := 181) hx hb dX5_readsItem_94 (by decide) (fun c_2 => ?_) (fun c_2 => ?_)
    · replace hf := of c_2 hf
      refine lv_iconst (v := (0 : Int32)) hx hb dX5_readsItem_181 (by decide) ?_
      obtain rfl := Option.some.inj hf
      exact hret H locs _ ls nar0 hP hS dX5_readsItem_182
    · replace hf := ot c_2 hf
      refine lv_iload_n hx hb dX5_readsItem_97 rfl (lv_at hl 0 rfl) ?_
      refine lv_bipush (v := (6 : Int32)) hx hb dX5_readsItem_98 (by decide) ?_
      refine lv_icmp_eq (tgt := 181) hx hb dX5_readsItem_100 (by decide) (fun c_3 => ?_) (fun c_3 => ?_)
      · replace hf := ot c_3 hf
        refine lv_iconst (v := (0 : Int32)) hx hb dX5_readsItem_181 (by decide) ?_
        obtain rfl := Option.some.inj hf
        exact hret H locs _ ls nar0 hP hS dX5_readsItem_182
      · replace hf := of c_3 hf
        refine lv_aload_n hx hb dX5_readsItem_103 rfl (lv_at hl 1 rfl) ?_
        refine lv_bipush (v := (13 : Int32)) hx hb dX5_readsItem_104 (by decide) ?_
        refine lv_iload_n hx hb dX5_readsItem_106 rfl (lv_at hl 0 rfl) ?_
        refine lv_iadd hx hb dX5_readsItem_107 ?_
        refine lv_iconst (v := (0 : Int32)) hx hb dX5_readsItem_108 (by decide) ?_
        refine lv_bipush (v := (9 : Int32)) hx hb dX5_readsItem_109 (by decide) ?_
        obtain ⟨u_4, hu_4, hf⟩ := ob hf
        refine mV X hK hA hP hD hS hl.1 (m_X5_number (l := l) E p_this p_text p_told p_draft p_s p_images p_kept p_notes p_held p_soonest v_trace v_typed v_noted v_at v_sort v_start v_value v_vanillaIn f_text f_draft ((13 : Int32) + k0) (0 : Int32) (9 : Int32) u_4 hu_4) kRX5_82 [0, 2, 1] rfl rfl (by simp only [w_X5_number, List.map]) rfl rfl rfl ⟨⟨(Nat.le_of_ble_eq_true rfl), (Nat.le_of_ble_eq_true rfl)⟩, Nat.zero_le _, Nat.zero_le _⟩ rfl rfl (Nat.le_of_ble_eq_true rfl) dX5_readsItem_111 (fun H locs hP hD hS => ?_)
        have hP : va_P E.1 classes (w_X5_readsItem E p_this p_text p_told p_draft p_s p_images p_kept p_notes p_held p_soonest v_trace v_typed v_noted u_4.2.1 u_4.2.2.1 u_4.2.2.2.1 u_4.2.2.2.2.1 v_vanillaIn u_4.2.2.2.2.2 f_text) H := hP
        have hD : va_D A (w_X5_readsItem E p_this p_text p_told p_draft p_s p_images p_kept p_notes p_held p_soonest v_trace v_typed v_noted u_4.2.1 u_4.2.2.1 u_4.2.2.2.1 u_4.2.2.2.2.1 v_vanillaIn u_4.2.2.2.2.2 f_text) := hD
        refine lv_if_eq (tgt := 181) hx hb dX5_readsItem_114 (by decide) (fun c_5 => ?_) (fun c_5 => ?_)
        · replace hf := ot c_5 hf
          refine lv_iconst (v := (0 : Int32)) hx hb dX5_readsItem_181 (by decide) ?_
          obtain rfl := Option.some.inj hf
          exact hret H locs _ ls nar0 hP hS dX5_readsItem_182
        · replace hf := of c_5 hf
          refine lv_aload_n hx hb dX5_readsItem_117 rfl (lv_at hl 1 rfl) ?_
          refine lv_bipush (v := (19 : Int32)) hx hb dX5_readsItem_118 (by decide) ?_
          refine lv_iload_n hx hb dX5_readsItem_120 rfl (lv_at hl 0 rfl) ?_
          refine lv_iadd hx hb dX5_readsItem_121 ?_
          refine lv_iconst (v := (0 : Int32)) hx hb dX5_readsItem_122 (by decide) ?_
          refine lv_bipush (v := (9 : Int32)) hx hb dX5_readsItem_123 (by decide) ?_
          obtain ⟨u_6, hu_6, hf⟩ := ob hf
          refine mV X hK hA hP hD hS hl.1 (m_X5_number (l := l) E p_this p_text p_told p_draft p_s p_images p_kept p_notes p_held p_soonest v_trace v_typed v_noted u_4.2.1 u_4.2.2.1 u_4.2.2.2.1 u_4.2.2.2.2.1 v_vanillaIn f_text u_4.2.2.2.2.2 ((19 : Int32) + k0) (0 : Int32) (9 : Int32) u_6 hu_6) kRX5_82 [0, 2, 1] rfl rfl (by simp only [w_X5_number, List.map]) rfl rfl rfl ⟨⟨(Nat.le_of_ble_eq_true rfl), (Nat.le_of_ble_eq_true rfl)⟩, Nat.zero_le _, Nat.zero_le _⟩ rfl rfl (Nat.le_of_ble_eq_true rfl) dX5_readsItem_125 (fun H locs hP hD hS => ?_)
          have hP : va_P E.1 classes (w_X5_readsItem E p_this p_text p_told p_draft p_s p_images p_kept p_notes p_held p_soonest v_trace v_typed v_noted u_6.2.1 u_6.2.2.1 u_6.2.2.2.1 u_6.2.2.2.2.1 v_vanillaIn u_6.2.2.2.2.2 f_text) H := hP
          have hD : va_D A (w_X5_readsItem E p_this p_text p_told p_draft p_s p_images p_kept p_notes p_held p_soonest v_trace v_typed v_noted u_6.2.1 u_6.2.2.1 u_6.2.2.2.1 u_6.2.2.2.2.1 v_vanillaIn u_6.2.2.2.2.2 f_text) := hD
          refine lv_if_eq (tgt := 181) hx hb dX5_readsItem_128 (by decide) (fun c_7 => ?_) (fun c_7 => ?_)
          · replace hf := ot c_7 hf
            refine lv_iconst (v := (0 : Int32)) hx hb dX5_readsItem_181 (by decide) ?_
            obtain rfl := Option.some.inj hf
            exact hret H locs _ ls nar0 hP hS dX5_readsItem_182
          · replace hf := of c_7 hf
            refine lv_aload_n hx hb dX5_readsItem_131 rfl (lv_at hl 1 rfl) ?_
            refine lv_bipush (v := (25 : Int32)) hx hb dX5_readsItem_132 (by decide) ?_
            refine lv_iload_n hx hb dX5_readsItem_134 rfl (lv_at hl 0 rfl) ?_
            refine lv_iadd hx hb dX5_readsItem_135 ?_
            refine lv_iconst (v := (1 : Int32)) hx hb dX5_readsItem_136 (by decide) ?_
            refine lv_bipush (v := (99 : Int32)) hx hb dX5_readsItem_137 (by decide) ?_
            obtain ⟨u_8, hu_8, hf⟩ := ob hf
            refine mV X hK hA hP hD hS hl.1 (m_X5_number (l := l) E p_this p_text p_told p_draft p_s p_images p_kept p_notes p_held p_soonest v_trace v_typed v_noted u_6.2.1 u_6.2.2.1 u_6.2.2.2.1 u_6.2.2.2.2.1 v_vanillaIn f_text u_6.2.2.2.2.2 ((25 : Int32) + k0) (1 : Int32) (99 : Int32) u_8 hu_8) kRX5_82 [0, 2, 1] rfl rfl (by simp only [w_X5_number, List.map]) rfl rfl rfl ⟨⟨(Nat.le_of_ble_eq_true rfl), (Nat.le_of_ble_eq_true rfl)⟩, Nat.zero_le _, Nat.zero_le _⟩ rfl rfl (Nat.le_of_ble_eq_true rfl) dX5_readsItem_139 (fun H locs hP hD hS => ?_)
            have hP : va_P E.1 classes (w_X5_readsItem E p_this p_text p_told p_draft p_s p_images p_kept p_notes p_held p_soonest v_trace v_typed v_noted u_8.2.1 u_8.2.2.1 u_8.2.2.2.1 u_8.2.2.2.2.1 v_vanillaIn u_8.2.2.2.2.2 f_text) H := hP
            have hD : va_D A (w_X5_readsItem E p_this p_text p_told p_draft p_s p_images p_kept p_notes p_held p_soonest v_trace v_typed v_noted u_8.2.1 u_8.2.2.1 u_8.2.2.2.1 u_8.2.2.2.2.1 v_vanillaIn u_8.2.2.2.2.2 f_text) := hD
            refine lv_if_eq (tgt := 181) hx hb dX5_readsItem_142 (by decide) (fun c_9 => ?_) (fun c_9 => ?_)
            · replace hf := ot c_9 hf
              refine lv_iconst (v := (0 : Int32)) hx hb dX5_readsItem_181 (by decide) ?_
              obtain rfl := Option.some.inj hf
              exact hret H locs _ ls nar0 hP hS dX5_readsItem_182
            · replace hf := of c_9 hf
              refine lv_aload_n hx hb dX5_readsItem_145 rfl (lv_at hl 1 rfl) ?_
              refine lv_bipush (v := (31 : Int32)) hx hb dX5_readsItem_146 (by decide) ?_
              refine lv_iload_n hx hb dX5_readsItem_148 rfl (lv_at hl 0 rfl) ?_
              refine lv_iadd hx hb dX5_readsItem_149 ?_
              refine lv_iconst (v := (0 : Int32)) hx hb dX5_readsItem_150 (by decide) ?_
              refine lv_bipush (v := (60 : Int32)) hx hb dX5_readsItem_151 (by decide) ?_
              obtain ⟨u_10, hu_10, hf⟩ := ob hf
              refine mV X hK hA hP hD hS hl.1 (m_X5_number (l := l) E p_this p_text p_told p_draft p_s p_images p_kept p_notes p_held p_soonest v_trace v_typed v_noted u_8.2.1 u_8.2.2.1 u_8.2.2.2.1 u_8.2.2.2.2.1 v_vanillaIn f_text u_8.2.2.2.2.2 ((31 : Int32) + k0) (0 : Int32) (60 : Int32) u_10 hu_10) kRX5_82 [0, 2, 1] rfl rfl (by simp only [w_X5_number, List.map]) rfl rfl rfl ⟨⟨(Nat.le_of_ble_eq_true rfl), (Nat.le_of_ble_eq_true rfl)⟩, Nat.zero_le _, Nat.zero_le _⟩ rfl rfl (Nat.le_of_ble_eq_true rfl) dX5_readsItem_153 (fun H locs hP hD hS => ?_)
              have hP : va_P E.1 classes (w_X5_readsItem E p_this p_text p_told p_draft p_s p_images p_kept p_notes p_held p_soonest v_trace v_typed v_noted u_10.2.1 u_10.2.2.1 u_10.2.2.2.1 u_10.2.2.2.2.1 v_vanillaIn u_10.2.2.2.2.2 f_text) H := hP
              have hD : va_D A (w_X5_readsItem E p_this p_text p_told p_draft p_s p_images p_kept p_notes p_held p_soonest v_trace v_typed v_noted u_10.2.1 u_10.2.2.1 u_10.2.2.2.1 u_10.2.2.2.2.1 v_vanillaIn u_10.2.2.2.2.2 f_text) := hD
              refine lv_if_eq (tgt := 181) hx hb dX5_readsItem_156 (by decide) (fun c_11 => ?_) (fun c_11 => ?_)
              · replace hf := ot c_11 hf
                refine lv_iconst (v := (0 : Int32)) hx hb dX5_readsItem_181 (by decide) ?_
                obtain rfl := Option.some.inj hf
                exact hret H locs _ ls nar0 hP hS dX5_readsItem_182
              · replace hf := of c_11 hf
                refine lv_aload_n hx hb dX5_readsItem_159 rfl (lv_at hl 1 rfl) ?_
                refine lv_bipush (v := (37 : Int32)) hx hb dX5_readsItem_160 (by decide) ?_
                refine lv_iload_n hx hb dX5_readsItem_162 rfl (lv_at hl 0 rfl) ?_
                refine lv_iadd hx hb dX5_readsItem_163 ?_
                refine lv_aload_n hx hb dX5_readsItem_164 rfl (lv_at hl 1 rfl) ?_
                refine gf_RX5_16 X hK hP 0 rfl rfl dX5_readsItem_165 ?_
                refine lv_bipush (v := (31 : Int32)) hx hb dX5_readsItem_168 (by decide) ?_
                refine lv_iload_n hx hb dX5_readsItem_170 rfl (lv_at hl 0 rfl) ?_
                refine lv_iadd hx hb dX5_readsItem_171 ?_
                obtain ⟨g_12, hf⟩ := og hf
                refine iald X hK hP 1 rfl _ rfl g_12 dX5_readsItem_172 ?_
                refine lv_bipush (v := (99 : Int32)) hx hb dX5_readsItem_173 (by decide) ?_
                obtain ⟨u_13, hu_13, hf⟩ := ob hf
                refine mV X hK hA hP hD hS hl.1 (m_X5_number (l := l) E p_this p_text p_told p_draft p_s p_images p_kept p_notes p_held p_soonest v_trace v_typed v_noted u_10.2.1 u_10.2.2.1 u_10.2.2.2.1 u_10.2.2.2.2.1 v_vanillaIn f_text u_10.2.2.2.2.2 ((37 : Int32) + k0) (u_10.2.2.2.2.2 ((31 : Int32) + k0).toNatClampNeg) (99 : Int32) u_13 hu_13) kRX5_82 [0, 2, 1] rfl rfl (by simp only [w_X5_number, List.map]) rfl rfl rfl ⟨⟨(Nat.le_of_ble_eq_true rfl), (Nat.le_of_ble_eq_true rfl)⟩, Nat.zero_le _, Nat.zero_le _⟩ rfl rfl (Nat.le_of_ble_eq_true rfl) dX5_readsItem_175 (fun H locs hP hD hS => ?_)
                have hP : va_P E.1 classes (w_X5_readsItem E p_this p_text p_told p_draft p_s p_images p_kept p_notes p_held p_soonest v_trace v_typed v_noted u_13.2.1 u_13.2.2.1 u_13.2.2.2.1 u_13.2.2.2.2.1 v_vanillaIn u_13.2.2.2.2.2 f_text) H := hP
                have hD : va_D A (w_X5_readsItem E p_this p_text p_told p_draft p_s p_images p_kept p_notes p_held p_soonest v_trace v_typed v_noted u_13.2.1 u_13.2.2.1 u_13.2.2.2.1 u_13.2.2.2.2.1 v_vanillaIn u_13.2.2.2.2.2 f_text) := hD
                refine lv_if_ne (tgt := 183) hx hb dX5_readsItem_178 (by decide) (fun c_14 => ?_) (fun c_14 => ?_)
                · replace hf := of c_14 hf
                  refine lv_aload_n hx hb dX5_readsItem_183 rfl (lv_at hl 1 rfl) ?_
                  refine gf_RX5_16 X hK hP 0 rfl rfl dX5_readsItem_184 ?_
                  refine lv_iconst (v := (1 : Int32)) hx hb dX5_readsItem_187 (by decide) ?_
                  refine lv_dup2_11 hx hb dX5_readsItem_188 rfl rfl ?_
                  refine iald X hK hP 1 rfl 1 (by decide) (by decide) dX5_readsItem_189 ?_
                  refine lv_iconst (v := (1 : Int32)) hx hb dX5_readsItem_190 (by decide) ?_
                  refine lv_iadd hx hb dX5_readsItem_191 ?_
                  refine iast X hK hP hD hS 1 rfl 1 (by decide) (by decide) dX5_readsItem_192 (fun H locs hP hD hS => ?_)
                  have hP : va_P E.1 classes (w_X5_readsItem E p_this p_text p_told p_draft p_s p_images p_kept p_notes p_held p_soonest v_trace v_typed v_noted u_13.2.1 u_13.2.2.1 u_13.2.2.2.1 u_13.2.2.2.2.1 v_vanillaIn (upd u_13.2.2.2.2.2 1 ((u_13.2.2.2.2.2 1) + (1 : Int32))) f_text) H := hP
                  have hD : va_D A (w_X5_readsItem E p_this p_text p_told p_draft p_s p_images p_kept p_notes p_held p_soonest v_trace v_typed v_noted u_13.2.1 u_13.2.2.1 u_13.2.2.2.1 u_13.2.2.2.2.1 v_vanillaIn (upd u_13.2.2.2.2.2 1 ((u_13.2.2.2.2.2 1) + (1 : Int32))) f_text) := hD
                  refine lv_iconst (v := (1 : Int32)) hx hb dX5_readsItem_193 (by decide) ?_
                  obtain rfl := Option.some.inj hf
                  exact hret H locs _ ls nar1 hP hS dX5_readsItem_194
                · replace hf := ot c_14 hf
                  refine lv_iconst (v := (0 : Int32)) hx hb dX5_readsItem_181 (by decide) ?_
                  obtain rfl := Option.some.inj hf
                  exact hret H locs _ ls nar0 hP hS dX5_readsItem_182
  · replace hf := ot c_1 hf
    refine lv_iload_n hx hb dX5_readsItem_45 rfl (lv_at hl 0 rfl) ?_
    refine lv_iconst (v := (5 : Int32)) hx hb dX5_readsItem_46 (by decide) ?_
    refine lv_icmp_eq (tgt := 77) hx hb dX5_readsItem_47 (by decide) (fun c_17 => ?_) (fun c_17 => ?_)
    · replace hf := ot c_17 hf
      refine lv_iconst (v := (0 : Int32)) hx hb dX5_readsItem_77 (by decide) ?_
      obtain rfl := Option.some.inj hf
      exact hret H locs _ ls nar0 hP hS dX5_readsItem_78
    · replace hf := of c_17 hf
      refine lv_aload_n hx hb dX5_readsItem_50 rfl (lv_at hl 1 rfl) ?_
      refine lv_iconst (v := (3 : Int32)) hx hb dX5_readsItem_51 (by decide) ?_
      refine lv_iload_n hx hb dX5_readsItem_52 rfl (lv_at hl 0 rfl) ?_
      refine lv_iadd hx hb dX5_readsItem_53 ?_
      refine lv_iconst (v := (0 : Int32)) hx hb dX5_readsItem_54 (by decide) ?_
      refine lv_bipush (v := (40 : Int32)) hx hb dX5_readsItem_55 (by decide) ?_
      obtain ⟨u_18, hu_18, hf⟩ := ob hf
      refine mV X hK hA hP hD hS hl.1 (m_X5_number (l := l) E p_this p_text p_told p_draft p_s p_images p_kept p_notes p_held p_soonest v_trace v_typed v_noted v_at v_sort v_start v_value v_vanillaIn f_text f_draft ((3 : Int32) + k0) (0 : Int32) (40 : Int32) u_18 hu_18) kRX5_82 [0, 2, 1] rfl rfl (by simp only [w_X5_number, List.map]) rfl rfl rfl ⟨⟨(Nat.le_of_ble_eq_true rfl), (Nat.le_of_ble_eq_true rfl)⟩, Nat.zero_le _, Nat.zero_le _⟩ rfl rfl (Nat.le_of_ble_eq_true rfl) dX5_readsItem_57 (fun H locs hP hD hS => ?_)
      have hP : va_P E.1 classes (w_X5_readsItem E p_this p_text p_told p_draft p_s p_images p_kept p_notes p_held p_soonest v_trace v_typed v_noted u_18.2.1 u_18.2.2.1 u_18.2.2.2.1 u_18.2.2.2.2.1 v_vanillaIn u_18.2.2.2.2.2 f_text) H := hP
      have hD : va_D A (w_X5_readsItem E p_this p_text p_told p_draft p_s p_images p_kept p_notes p_held p_soonest v_trace v_typed v_noted u_18.2.1 u_18.2.2.1 u_18.2.2.2.1 u_18.2.2.2.2.1 v_vanillaIn u_18.2.2.2.2.2 f_text) := hD
      refine lv_if_eq (tgt := 77) hx hb dX5_readsItem_60 (by decide) (fun c_19 => ?_) (fun c_19 => ?_)
      · replace hf := ot c_19 hf
        refine lv_iconst (v := (0 : Int32)) hx hb dX5_readsItem_77 (by decide) ?_
        obtain rfl := Option.some.inj hf
        exact hret H locs _ ls nar0 hP hS dX5_readsItem_78
      · replace hf := of c_19 hf
        refine lv_aload_n hx hb dX5_readsItem_63 rfl (lv_at hl 1 rfl) ?_
        refine lv_bipush (v := (8 : Int32)) hx hb dX5_readsItem_64 (by decide) ?_
        refine lv_iload_n hx hb dX5_readsItem_66 rfl (lv_at hl 0 rfl) ?_
        refine lv_iadd hx hb dX5_readsItem_67 ?_
        refine lv_iconst (v := (0 : Int32)) hx hb dX5_readsItem_68 (by decide) ?_
        refine lv_bipush (v := (18 : Int32)) hx hb dX5_readsItem_69 (by decide) ?_
        obtain ⟨u_20, hu_20, hf⟩ := ob hf
        refine mV X hK hA hP hD hS hl.1 (m_X5_number (l := l) E p_this p_text p_told p_draft p_s p_images p_kept p_notes p_held p_soonest v_trace v_typed v_noted u_18.2.1 u_18.2.2.1 u_18.2.2.2.1 u_18.2.2.2.2.1 v_vanillaIn f_text u_18.2.2.2.2.2 ((8 : Int32) + k0) (0 : Int32) (18 : Int32) u_20 hu_20) kRX5_82 [0, 2, 1] rfl rfl (by simp only [w_X5_number, List.map]) rfl rfl rfl ⟨⟨(Nat.le_of_ble_eq_true rfl), (Nat.le_of_ble_eq_true rfl)⟩, Nat.zero_le _, Nat.zero_le _⟩ rfl rfl (Nat.le_of_ble_eq_true rfl) dX5_readsItem_71 (fun H locs hP hD hS => ?_)
        have hP : va_P E.1 classes (w_X5_readsItem E p_this p_text p_told p_draft p_s p_images p_kept p_notes p_held p_soonest v_trace v_typed v_noted u_20.2.1 u_20.2.2.1 u_20.2.2.2.1 u_20.2.2.2.2.1 v_vanillaIn u_20.2.2.2.2.2 f_text) H := hP
        have hD : va_D A (w_X5_readsItem E p_this p_text p_told p_draft p_s p_images p_kept p_notes p_held p_soonest v_trace v_typed v_noted u_20.2.1 u_20.2.2.1 u_20.2.2.2.1 u_20.2.2.2.2.1 v_vanillaIn u_20.2.2.2.2.2 f_text) := hD
        refine lv_if_ne (tgt := 79) hx hb dX5_readsItem_74 (by decide) (fun c_21 => ?_) (fun c_21 => ?_)
        · replace hf := of c_21 hf
          refine lv_aload_n hx hb dX5_readsItem_79 rfl (lv_at hl 1 rfl) ?_
          refine gf_RX5_16 X hK hP 0 rfl rfl dX5_readsItem_80 ?_
          refine lv_iconst (v := (0 : Int32)) hx hb dX5_readsItem_83 (by decide) ?_
          refine lv_dup2_11 hx hb dX5_readsItem_84 rfl rfl ?_
          refine iald X hK hP 1 rfl 0 (by decide) (by decide) dX5_readsItem_85 ?_
          refine lv_iconst (v := (1 : Int32)) hx hb dX5_readsItem_86 (by decide) ?_
          refine lv_iadd hx hb dX5_readsItem_87 ?_
          refine iast X hK hP hD hS 1 rfl 0 (by decide) (by decide) dX5_readsItem_88 (fun H locs hP hD hS => ?_)
          have hP : va_P E.1 classes (w_X5_readsItem E p_this p_text p_told p_draft p_s p_images p_kept p_notes p_held p_soonest v_trace v_typed v_noted u_20.2.1 u_20.2.2.1 u_20.2.2.2.1 u_20.2.2.2.2.1 v_vanillaIn (upd u_20.2.2.2.2.2 0 ((u_20.2.2.2.2.2 0) + (1 : Int32))) f_text) H := hP
          have hD : va_D A (w_X5_readsItem E p_this p_text p_told p_draft p_s p_images p_kept p_notes p_held p_soonest v_trace v_typed v_noted u_20.2.1 u_20.2.2.1 u_20.2.2.2.1 u_20.2.2.2.2.1 v_vanillaIn (upd u_20.2.2.2.2.2 0 ((u_20.2.2.2.2.2 0) + (1 : Int32))) f_text) := hD
          refine lv_iconst (v := (1 : Int32)) hx hb dX5_readsItem_89 (by decide) ?_
          obtain rfl := Option.some.inj hf
          exact hret H locs _ ls nar1 hP hS dX5_readsItem_90
        · replace hf := ot c_21 hf
          refine lv_iconst (v := (0 : Int32)) hx hb dX5_readsItem_77 (by decide) ?_
          obtain rfl := Option.some.inj hf
          exact hret H locs _ ls nar0 hP hS dX5_readsItem_78

set_option maxHeartbeats 4000000 in
set_option maxRecDepth 100000 in
theorem b_X5_readsItem_16 {p : Program} {l : Launch} {e : Env} {s : State} {m : MethodId} {args : Array Value} {below : List Frame} {meth : Method} {c : Code} {Q : State → Prop} {A : Nat → Prop} (E : Ev) (p_this : Nat) (p_text : Nat) (p_told : Nat) (p_draft : Nat) (p_s : Nat) (p_images : Nat) (p_kept : Nat) (p_notes : Nat) (p_held : Nat) (p_soonest : Nat) (v_trace : Int64) (v_typed : Int32) (v_noted : Int32) (v_vanillaIn : Int32) (f_text : Nat → Int32) (res : Int32 × Int32 × Int32 × Int32 × Int32 × (Nat → Int32)) (X : Cx p s m args meth c cX5_readsItem 3 RX5 (some .boolean)) (hK : KK E A s s.heap) (hA : ∀ q, s.heap.size ≤ q → A q) (hret : RetI p l e (RM 5) s m args below meth c Q E A cX5_readsItem .boolean (w_X5_readsItem E p_this p_text p_told p_draft p_s p_images p_kept p_notes p_held p_soonest v_trace v_typed v_noted res.2.1 res.2.2.1 res.2.2.2.1 res.2.2.2.2.1 v_vanillaIn res.2.2.2.2.2 f_text) res.1)  (v_at : Int32) (v_sort : Int32) (v_start : Int32) (v_value : Int32) (f_draft : Nat → Int32) (k0 : Int32) (hf : f_X5_readsItem_16 v_typed f_text   v_at v_sort v_start v_value f_draft k0 = some res) : ∀ (H : Heap) (locs : List Loc) (ls : Array Slot), lv_has ls 3 [(0, .ref p_this)] → va_P E.1 classes (w_X5_readsItem E p_this p_text p_told p_draft p_s p_images p_kept p_notes p_held p_soonest v_trace v_typed v_noted v_at v_sort v_start v_value v_vanillaIn f_draft f_text) H → va_D A (w_X5_readsItem E p_this p_text p_told p_draft p_s p_images p_kept p_notes p_held p_soonest v_trace v_typed v_noted v_at v_sort v_start v_value v_vanillaIn f_draft f_text) → va_S A s.heap H locs → W p l e (RM 5) s m args below meth c H locs 0 0 Q (F0 m 16 ls [.int k0]) := by
  obtain ⟨hx, hb, hml, hown, hts, hrt, hlk⟩ := id X
  intro H locs ls hl hP hD hS
  unfold f_X5_readsItem_16 at hf
  refine lv_istore_n (lv' := [(1, .int k0), (0, .ref p_this)]) hx hb dX5_readsItem_16 rfl hl (by decide) rfl (fun ls hl => ?_)
  refine lv_iload_n hx hb dX5_readsItem_17 rfl (lv_at hl 0 rfl) ?_
  refine lv_bipush (v := (111 : Int32)) hx hb dX5_readsItem_18 (by decide) ?_
  refine lv_icmp_ne (tgt := 32) hx hb dX5_readsItem_20 (by decide) (fun c_1 => ?_) (fun c_1 => ?_)
  · replace hf := of c_1 hf
    refine lv_aload_n hx hb dX5_readsItem_32 rfl (lv_at hl 1 rfl) ?_
    refine gf_RX5_16 X hK hP 0 rfl rfl dX5_readsItem_33 ?_
    refine lv_iconst (v := (1 : Int32)) hx hb dX5_readsItem_36 (by decide) ?_
    refine iald X hK hP 1 rfl 1 (by decide) (by decide) dX5_readsItem_37 ?_
    exact b_X5_readsItem_38 E p_this p_text p_told p_draft p_s p_images p_kept p_notes p_held p_soonest v_trace v_typed v_noted v_vanillaIn f_text res X hK hA hret   v_at v_sort v_start v_value f_draft k0 (f_draft 1) hf H locs ls (lv_sub hl [1, 0] rfl) hP hD hS
  · replace hf := ot c_1 hf
    refine lv_aload_n hx hb dX5_readsItem_23 rfl (lv_at hl 1 rfl) ?_
    refine gf_RX5_16 X hK hP 0 rfl rfl dX5_readsItem_24 ?_
    refine lv_iconst (v := (0 : Int32)) hx hb dX5_readsItem_27 (by decide) ?_
    refine iald X hK hP 1 rfl 0 (by decide) (by decide) dX5_readsItem_28 ?_
    refine lv_goto (tgt := 38) hx hb dX5_readsItem_29 (by decide) ?_
    exact b_X5_readsItem_38 E p_this p_text p_told p_draft p_s p_images p_kept p_notes p_held p_soonest v_trace v_typed v_noted v_vanillaIn f_text res X hK hA hret   v_at v_sort v_start v_value f_draft k0 (f_draft 0) hf H locs ls (lv_sub hl [1, 0] rfl) hP hD hS

set_option maxHeartbeats 4000000 in
set_option maxRecDepth 100000 in
theorem m_X5_readsItem {l : Launch} (E : Ev) (p_this : Nat) (p_text : Nat) (p_told : Nat) (p_draft : Nat) (p_s : Nat) (p_images : Nat) (p_kept : Nat) (p_notes : Nat) (p_held : Nat) (p_soonest : Nat) (v_trace : Int64) (v_typed : Int32) (v_noted : Int32) (v_at : Int32) (v_sort : Int32) (v_start : Int32) (v_value : Int32) (v_vanillaIn : Int32) (f_draft : Nat → Int32) (f_text : Nat → Int32)  (res : Int32 × Int32 × Int32 × Int32 × Int32 × (Nat → Int32)) (hf : f_X5_readsItem  v_typed f_text v_at v_sort v_start v_value f_draft  = some res) : MutI l E 5 yX5_readsItem cX5_readsItem 3 .boolean [.ref p_this] (w_X5_readsItem E p_this p_text p_told p_draft p_s p_images p_kept p_notes p_held p_soonest v_trace v_typed v_noted v_at v_sort v_start v_value v_vanillaIn f_draft f_text) (w_X5_readsItem E p_this p_text p_told p_draft p_s p_images p_kept p_notes p_held p_soonest v_trace v_typed v_noted res.2.1 res.2.2.1 res.2.2.2.1 res.2.2.2.2.1 v_vanillaIn res.2.2.2.2.2 f_text) res.1 := by
  refine MutI.of (by decide) (Nat.le_of_ble_eq_true rfl) ?_
  intro p e s m args below meth c Q A X hK hA hret H locs ls hl hP hD hS
  obtain ⟨hx, hb, hml, hown, hts, hrt, hlk⟩ := id X
  have hl : lv_has ls 3 [(0, .ref p_this)] := hl
  unfold f_X5_readsItem at hf
  refine lv_aload_n hx hb dX5_readsItem_0 rfl (lv_at hl 0 rfl) ?_
  refine gf_RX5_73 X hK hP 0 rfl rfl dX5_readsItem_1 ?_
  refine lv_iconst (v := (1 : Int32)) hx hb dX5_readsItem_4 (by decide) ?_
  refine lv_icmp_ne (tgt := 15) hx hb dX5_readsItem_5 (by decide) (fun c_1 => ?_) (fun c_1 => ?_)
  · replace hf := of c_1 hf
    refine lv_iconst (v := (0 : Int32)) hx hb dX5_readsItem_15 (by decide) ?_
    exact b_X5_readsItem_16 E p_this p_text p_told p_draft p_s p_images p_kept p_notes p_held p_soonest v_trace v_typed v_noted v_vanillaIn f_text res X hK hA hret   v_at v_sort v_start v_value f_draft (0 : Int32) hf H locs ls (lv_sub hl [0] rfl) hP hD hS
  · replace hf := ot c_1 hf
    refine lv_aload_n hx hb dX5_readsItem_8 rfl (lv_at hl 0 rfl) ?_
    refine gf_RX5_76 X hK hP 0 rfl rfl dX5_readsItem_9 ?_
    refine lv_goto (tgt := 16) hx hb dX5_readsItem_12 (by decide) ?_
    exact b_X5_readsItem_16 E p_this p_text p_told p_draft p_s p_images p_kept p_notes p_held p_soonest v_trace v_typed v_noted v_vanillaIn f_text res X hK hA hret   v_at v_sort v_start v_value f_draft v_value hf H locs ls (lv_sub hl [0] rfl) hP hD hS

abbrev w_X5_reads (E : Ev) (p_this : Nat) (p_text : Nat) (p_told : Nat) (p_draft : Nat) (p_s : Nat) (p_images : Nat) (p_kept : Nat) (p_notes : Nat) (p_held : Nat) (p_soonest : Nat) (v_trace : Int64) (v_typed : Int32) (v_noted : Int32) (v_at : Int32) (v_sort : Int32) (v_start : Int32) (v_value : Int32) (v_vanillaIn : Int32) (f_draft : Nat → Int32) (f_text : Nat → Int32) : va_W := [(p_this, .inr (5, [.long v_trace, .ref p_text, .int v_typed, .ref p_told, .ref p_draft, .ref p_s, .ref p_images, .ref p_kept, .ref p_notes, .int v_noted, .int v_at, .int v_sort, .int v_start, .int v_value, .int v_vanillaIn, .ref p_held, .ref p_soonest])), (p_draft, .inl (E.2.1, 43, .inl f_draft)), (p_text, .inl (E.2.1, 180, .inl f_text))]
set_option maxHeartbeats 4000000 in
set_option maxRecDepth 100000 in
theorem b_X5_reads_30 {p : Program} {l : Launch} {e : Env} {s : State} {m : MethodId} {args : Array Value} {below : List Frame} {meth : Method} {c : Code} {Q : State → Prop} {A : Nat → Prop} (E : Ev) (p_this : Nat) (p_text : Nat) (p_told : Nat) (p_draft : Nat) (p_s : Nat) (p_images : Nat) (p_kept : Nat) (p_notes : Nat) (p_held : Nat) (p_soonest : Nat) (v_trace : Int64) (v_typed : Int32) (v_noted : Int32) (v_vanillaIn : Int32) (f_text : Nat → Int32) (res : Int32 × Int32 × Int32 × Int32 × Int32 × (Nat → Int32)) (X : Cx p s m args meth c cX5_reads 2 RX5 (some .boolean)) (hK : KK E A s s.heap) (hA : ∀ q, s.heap.size ≤ q → A q) (hret : RetI p l e (RM 6) s m args below meth c Q E A cX5_reads .boolean (w_X5_reads E p_this p_text p_told p_draft p_s p_images p_kept p_notes p_held p_soonest v_trace v_typed v_noted res.2.1 res.2.2.1 res.2.2.2.1 res.2.2.2.2.1 v_vanillaIn res.2.2.2.2.2 f_text) res.1)  : ∀ (n : Nat) (v_at : Int32) (v_sort : Int32) (v_start : Int32) (v_value : Int32) (f_draft : Nat → Int32), f_X5_reads_30 v_typed f_text   n v_at v_sort v_start v_value f_draft = some res → ∀ (H : Heap) (locs : List Loc) (ls : Array Slot), lv_has ls 2 [(0, .ref p_this)] → va_P E.1 classes (w_X5_reads E p_this p_text p_told p_draft p_s p_images p_kept p_notes p_held p_soonest v_trace v_typed v_noted v_at v_sort v_start v_value v_vanillaIn f_draft f_text) H → va_D A (w_X5_reads E p_this p_text p_told p_draft p_s p_images p_kept p_notes p_held p_soonest v_trace v_typed v_noted v_at v_sort v_start v_value v_vanillaIn f_draft f_text) → va_S A s.heap H locs → W p l e (RM 6) s m args below meth c H locs 0 0 Q (F0 m 30 ls []) := by
  obtain ⟨hx, hb, hml, hown, hts, hrt, hlk⟩ := id X
  intro n
  induction n with
  | zero => intro v_at v_sort v_start v_value f_draft hf; exact absurd hf (by simp [f_X5_reads_30])
  | succ n ih =>
    intro v_at v_sort v_start v_value f_draft hf H locs ls hl hP hD hS
    unfold f_X5_reads_30 at hf
    refine lv_aload_n hx hb dX5_reads_30 rfl (lv_at hl 0 rfl) ?_
    refine gf_RX5_73 X hK hP 0 rfl rfl dX5_reads_31 ?_
    refine lv_if_eq (tgt := 77) hx hb dX5_reads_34 (by decide) (fun c_1 => ?_) (fun c_1 => ?_)
    · replace hf := ot c_1 hf
      refine lv_iconst (v := (1 : Int32)) hx hb dX5_reads_77 (by decide) ?_
      obtain rfl := Option.some.inj hf
      exact hret H locs _ ls nar1 hP hS dX5_reads_78
    · replace hf := of c_1 hf
      refine lv_aload_n hx hb dX5_reads_37 rfl (lv_at hl 0 rfl) ?_
      obtain ⟨u_2, hu_2, hf⟩ := ob hf
      refine mV X hK hA hP hD hS hl.1 (m_X5_readsItem (l := l) E p_this p_text p_told p_draft p_s p_images p_kept p_notes p_held p_soonest v_trace v_typed v_noted v_at v_sort v_start v_value v_vanillaIn f_draft f_text  u_2 hu_2) kRX5_85 [0, 1, 2] rfl rfl (by simp only [w_X5_readsItem, List.map]) rfl rfl rfl ⟨⟨(Nat.le_of_ble_eq_true rfl), (Nat.le_of_ble_eq_true rfl)⟩, Nat.zero_le _, Nat.zero_le _⟩ rfl rfl (Nat.le_of_ble_eq_true rfl) dX5_reads_38 (fun H locs hP hD hS => ?_)
      have hP : va_P E.1 classes (w_X5_reads E p_this p_text p_told p_draft p_s p_images p_kept p_notes p_held p_soonest v_trace v_typed v_noted u_2.2.1 u_2.2.2.1 u_2.2.2.2.1 u_2.2.2.2.2.1 v_vanillaIn u_2.2.2.2.2.2 f_text) H := hP
      have hD : va_D A (w_X5_reads E p_this p_text p_told p_draft p_s p_images p_kept p_notes p_held p_soonest v_trace v_typed v_noted u_2.2.1 u_2.2.2.1 u_2.2.2.2.1 u_2.2.2.2.2.1 v_vanillaIn u_2.2.2.2.2.2 f_text) := hD
      refine lv_if_ne (tgt := 46) hx hb dX5_reads_41 (by decide) (fun c_3 => ?_) (fun c_3 => ?_)
      · replace hf := of c_3 hf
        refine lv_aload_n hx hb dX5_reads_46 rfl (lv_at hl 0 rfl) ?_
        obtain ⟨u_4, hu_4, hf⟩ := ob hf
        refine mVv X hK hA hP hD hS hl.1 (m_X5_token (l := l) E p_this p_text p_told p_draft p_s p_images p_kept p_notes p_held p_soonest v_trace v_typed v_noted u_2.2.1 u_2.2.2.1 u_2.2.2.2.1 u_2.2.2.2.2.1 v_vanillaIn f_text  u_4 hu_4) kRX5_79 [0, 2] rfl rfl (by simp only [w_X5_token, List.map]) rfl rfl rfl ⟨⟨(Nat.le_of_ble_eq_true rfl), (Nat.le_of_ble_eq_true rfl)⟩, Nat.zero_le _, Nat.zero_le _⟩ rfl rfl (Nat.le_of_ble_eq_true rfl) dX5_reads_47 (fun H locs hP hD hS => ?_)
        have hP : va_P E.1 classes (w_X5_reads E p_this p_text p_told p_draft p_s p_images p_kept p_notes p_held p_soonest v_trace v_typed v_noted u_4.1 u_4.2.1 u_4.2.2.1 u_4.2.2.2 v_vanillaIn u_2.2.2.2.2.2 f_text) H := hP
        have hD : va_D A (w_X5_reads E p_this p_text p_told p_draft p_s p_images p_kept p_notes p_held p_soonest v_trace v_typed v_noted u_4.1 u_4.2.1 u_4.2.2.1 u_4.2.2.2 v_vanillaIn u_2.2.2.2.2.2 f_text) := hD
        refine lv_aload_n hx hb dX5_reads_50 rfl (lv_at hl 0 rfl) ?_
        refine gf_RX5_73 X hK hP 0 rfl rfl dX5_reads_51 ?_
        refine lv_iconst (v := (3 : Int32)) hx hb dX5_reads_54 (by decide) ?_
        refine lv_icmp_eq (tgt := 60) hx hb dX5_reads_55 (by decide) (fun c_5 => ?_) (fun c_5 => ?_)
        · replace hf := ot c_5 hf
          refine lv_aload_n hx hb dX5_reads_60 rfl (lv_at hl 0 rfl) ?_
          refine gf_RX5_16 X hK hP 0 rfl rfl dX5_reads_61 ?_
          refine lv_iconst (v := (2 : Int32)) hx hb dX5_reads_64 (by decide) ?_
          refine lv_dup2_11 hx hb dX5_reads_65 rfl rfl ?_
          refine iald X hK hP 1 rfl 2 (by decide) (by decide) dX5_reads_66 ?_
          refine lv_iconst (v := (1 : Int32)) hx hb dX5_reads_67 (by decide) ?_
          refine lv_iadd hx hb dX5_reads_68 ?_
          refine iast X hK hP hD hS 1 rfl 2 (by decide) (by decide) dX5_reads_69 (fun H locs hP hD hS => ?_)
          have hP : va_P E.1 classes (w_X5_reads E p_this p_text p_told p_draft p_s p_images p_kept p_notes p_held p_soonest v_trace v_typed v_noted u_4.1 u_4.2.1 u_4.2.2.1 u_4.2.2.2 v_vanillaIn (upd u_2.2.2.2.2.2 2 ((u_2.2.2.2.2.2 2) + (1 : Int32))) f_text) H := hP
          have hD : va_D A (w_X5_reads E p_this p_text p_told p_draft p_s p_images p_kept p_notes p_held p_soonest v_trace v_typed v_noted u_4.1 u_4.2.1 u_4.2.2.1 u_4.2.2.2 v_vanillaIn (upd u_2.2.2.2.2.2 2 ((u_2.2.2.2.2.2 2) + (1 : Int32))) f_text) := hD
          refine lv_aload_n hx hb dX5_reads_70 rfl (lv_at hl 0 rfl) ?_
          obtain ⟨u_8, hu_8, hf⟩ := ob hf
          refine mVv X hK hA hP hD hS hl.1 (m_X5_token (l := l) E p_this p_text p_told p_draft p_s p_images p_kept p_notes p_held p_soonest v_trace v_typed v_noted u_4.1 u_4.2.1 u_4.2.2.1 u_4.2.2.2 v_vanillaIn f_text  u_8 hu_8) kRX5_79 [0, 2] rfl rfl (by simp only [w_X5_token, List.map]) rfl rfl rfl ⟨⟨(Nat.le_of_ble_eq_true rfl), (Nat.le_of_ble_eq_true rfl)⟩, Nat.zero_le _, Nat.zero_le _⟩ rfl rfl (Nat.le_of_ble_eq_true rfl) dX5_reads_71 (fun H locs hP hD hS => ?_)
          have hP : va_P E.1 classes (w_X5_reads E p_this p_text p_told p_draft p_s p_images p_kept p_notes p_held p_soonest v_trace v_typed v_noted u_8.1 u_8.2.1 u_8.2.2.1 u_8.2.2.2 v_vanillaIn (upd u_2.2.2.2.2.2 2 ((u_2.2.2.2.2.2 2) + (1 : Int32))) f_text) H := hP
          have hD : va_D A (w_X5_reads E p_this p_text p_told p_draft p_s p_images p_kept p_notes p_held p_soonest v_trace v_typed v_noted u_8.1 u_8.2.1 u_8.2.2.1 u_8.2.2.2 v_vanillaIn (upd u_2.2.2.2.2.2 2 ((u_2.2.2.2.2.2 2) + (1 : Int32))) f_text) := hD
          refine lv_goto (tgt := 30) hx hb dX5_reads_74 (by decide) ?_
          exact ih u_8.1 u_8.2.1 u_8.2.2.1 u_8.2.2.2 (upd u_2.2.2.2.2.2 2 ((u_2.2.2.2.2.2 2) + (1 : Int32))) hf H locs ls (lv_sub hl [0] rfl) hP hD hS
        · replace hf := of c_5 hf
          refine lv_iconst (v := (0 : Int32)) hx hb dX5_reads_58 (by decide) ?_
          obtain rfl := Option.some.inj hf
          exact hret H locs _ ls nar0 hP hS dX5_reads_59
      · replace hf := ot c_3 hf
        refine lv_iconst (v := (0 : Int32)) hx hb dX5_reads_44 (by decide) ?_
        obtain rfl := Option.some.inj hf
        exact hret H locs _ ls nar0 hP hS dX5_reads_45

set_option maxHeartbeats 4000000 in
set_option maxRecDepth 100000 in
theorem b_X5_reads_2 {p : Program} {l : Launch} {e : Env} {s : State} {m : MethodId} {args : Array Value} {below : List Frame} {meth : Method} {c : Code} {Q : State → Prop} {A : Nat → Prop} (E : Ev) (p_this : Nat) (p_text : Nat) (p_told : Nat) (p_draft : Nat) (p_s : Nat) (p_images : Nat) (p_kept : Nat) (p_notes : Nat) (p_held : Nat) (p_soonest : Nat) (v_trace : Int64) (v_typed : Int32) (v_noted : Int32) (v_vanillaIn : Int32) (f_text : Nat → Int32) (res : Int32 × Int32 × Int32 × Int32 × Int32 × (Nat → Int32)) (X : Cx p s m args meth c cX5_reads 2 RX5 (some .boolean)) (hK : KK E A s s.heap) (hA : ∀ q, s.heap.size ≤ q → A q) (hret : RetI p l e (RM 6) s m args below meth c Q E A cX5_reads .boolean (w_X5_reads E p_this p_text p_told p_draft p_s p_images p_kept p_notes p_held p_soonest v_trace v_typed v_noted res.2.1 res.2.2.1 res.2.2.2.1 res.2.2.2.2.1 v_vanillaIn res.2.2.2.2.2 f_text) res.1)  : ∀ (n : Nat) (v_at : Int32) (v_sort : Int32) (v_start : Int32) (v_value : Int32) (f_draft : Nat → Int32) (x1 : Int32), f_X5_reads_2 v_typed f_text   n v_at v_sort v_start v_value f_draft x1 = some res → ∀ (H : Heap) (locs : List Loc) (ls : Array Slot), lv_has ls 2 [(0, .ref p_this), (1, .int x1)] → va_P E.1 classes (w_X5_reads E p_this p_text p_told p_draft p_s p_images p_kept p_notes p_held p_soonest v_trace v_typed v_noted v_at v_sort v_start v_value v_vanillaIn f_draft f_text) H → va_D A (w_X5_reads E p_this p_text p_told p_draft p_s p_images p_kept p_notes p_held p_soonest v_trace v_typed v_noted v_at v_sort v_start v_value v_vanillaIn f_draft f_text) → va_S A s.heap H locs → W p l e (RM 6) s m args below meth c H locs 0 0 Q (F0 m 2 ls []) := by
  obtain ⟨hx, hb, hml, hown, hts, hrt, hlk⟩ := id X
  intro n
  induction n with
  | zero => intro v_at v_sort v_start v_value f_draft x1 hf; exact absurd hf (by simp [f_X5_reads_2])
  | succ n ih =>
    intro v_at v_sort v_start v_value f_draft x1 hf H locs ls hl hP hD hS
    unfold f_X5_reads_2 at hf
    refine lv_iload_n hx hb dX5_reads_2 rfl (lv_at hl 1 rfl) ?_
    refine lv_bipush (v := (43 : Int32)) hx hb dX5_reads_3 (by decide) ?_
    refine lv_icmp_ge (tgt := 21) hx hb dX5_reads_5 (by decide) (fun c_1 => ?_) (fun c_1 => ?_)
    · replace hf := ot c_1 hf
      refine lv_aload_n hx hb dX5_reads_21 rfl (lv_at hl 0 rfl) ?_
      refine lv_iconst (v := (0 : Int32)) hx hb dX5_reads_22 (by decide) ?_
      refine pf_RX5_56 X hK hP hD hS 0 rfl rfl dX5_reads_23 (fun H locs hP hD hS => ?_)
      have hP : va_P E.1 classes (w_X5_reads E p_this p_text p_told p_draft p_s p_images p_kept p_notes p_held p_soonest v_trace v_typed v_noted (0 : Int32) v_sort v_start v_value v_vanillaIn f_draft f_text) H := hP
      have hD : va_D A (w_X5_reads E p_this p_text p_told p_draft p_s p_images p_kept p_notes p_held p_soonest v_trace v_typed v_noted (0 : Int32) v_sort v_start v_value v_vanillaIn f_draft f_text) := hD
      refine lv_aload_n hx hb dX5_reads_26 rfl (lv_at hl 0 rfl) ?_
      obtain ⟨u_2, hu_2, hf⟩ := ob hf
      refine mVv X hK hA hP hD hS hl.1 (m_X5_token (l := l) E p_this p_text p_told p_draft p_s p_images p_kept p_notes p_held p_soonest v_trace v_typed v_noted (0 : Int32) v_sort v_start v_value v_vanillaIn f_text  u_2 hu_2) kRX5_79 [0, 2] rfl rfl (by simp only [w_X5_token, List.map]) rfl rfl rfl ⟨⟨(Nat.le_of_ble_eq_true rfl), (Nat.le_of_ble_eq_true rfl)⟩, Nat.zero_le _, Nat.zero_le _⟩ rfl rfl (Nat.le_of_ble_eq_true rfl) dX5_reads_27 (fun H locs hP hD hS => ?_)
      have hP : va_P E.1 classes (w_X5_reads E p_this p_text p_told p_draft p_s p_images p_kept p_notes p_held p_soonest v_trace v_typed v_noted u_2.1 u_2.2.1 u_2.2.2.1 u_2.2.2.2 v_vanillaIn f_draft f_text) H := hP
      have hD : va_D A (w_X5_reads E p_this p_text p_told p_draft p_s p_images p_kept p_notes p_held p_soonest v_trace v_typed v_noted u_2.1 u_2.2.1 u_2.2.2.1 u_2.2.2.2 v_vanillaIn f_draft f_text) := hD
      exact b_X5_reads_30 E p_this p_text p_told p_draft p_s p_images p_kept p_notes p_held p_soonest v_trace v_typed v_noted v_vanillaIn f_text res X hK hA hret   FU u_2.1 u_2.2.1 u_2.2.2.1 u_2.2.2.2 f_draft hf H locs ls (lv_sub hl [0] rfl) hP hD hS
    · replace hf := of c_1 hf
      refine lv_aload_n hx hb dX5_reads_8 rfl (lv_at hl 0 rfl) ?_
      refine gf_RX5_16 X hK hP 0 rfl rfl dX5_reads_9 ?_
      refine lv_iload_n hx hb dX5_reads_12 rfl (lv_at hl 1 rfl) ?_
      refine lv_iconst (v := (0 : Int32)) hx hb dX5_reads_13 (by decide) ?_
      obtain ⟨g_3, hf⟩ := og hf
      refine iast X hK hP hD hS 1 rfl _ rfl g_3 dX5_reads_14 (fun H locs hP hD hS => ?_)
      have hP : va_P E.1 classes (w_X5_reads E p_this p_text p_told p_draft p_s p_images p_kept p_notes p_held p_soonest v_trace v_typed v_noted v_at v_sort v_start v_value v_vanillaIn (upd f_draft x1.toNatClampNeg (0 : Int32)) f_text) H := hP
      have hD : va_D A (w_X5_reads E p_this p_text p_told p_draft p_s p_images p_kept p_notes p_held p_soonest v_trace v_typed v_noted v_at v_sort v_start v_value v_vanillaIn (upd f_draft x1.toNatClampNeg (0 : Int32)) f_text) := hD
      refine lv_iinc (v := (x1 + (1 : Int32))) (lv' := [(1, .int (x1 + (1 : Int32))), (0, .ref p_this)]) hx hb dX5_reads_15 hl (k := 1) rfl rfl (by decide) rfl (fun ls hl => ?_)
      refine lv_goto (tgt := 2) hx hb dX5_reads_18 (by decide) ?_
      exact ih v_at v_sort v_start v_value (upd f_draft x1.toNatClampNeg (0 : Int32)) (x1 + (1 : Int32)) hf H locs ls (lv_sub hl [1, 0] rfl) hP hD hS

set_option maxHeartbeats 4000000 in
set_option maxRecDepth 100000 in
theorem m_X5_reads {l : Launch} (E : Ev) (p_this : Nat) (p_text : Nat) (p_told : Nat) (p_draft : Nat) (p_s : Nat) (p_images : Nat) (p_kept : Nat) (p_notes : Nat) (p_held : Nat) (p_soonest : Nat) (v_trace : Int64) (v_typed : Int32) (v_noted : Int32) (v_at : Int32) (v_sort : Int32) (v_start : Int32) (v_value : Int32) (v_vanillaIn : Int32) (f_draft : Nat → Int32) (f_text : Nat → Int32)  (res : Int32 × Int32 × Int32 × Int32 × Int32 × (Nat → Int32)) (hf : f_X5_reads  v_typed f_text v_at v_sort v_start v_value f_draft  = some res) : MutI l E 6 yX5_reads cX5_reads 2 .boolean [.ref p_this] (w_X5_reads E p_this p_text p_told p_draft p_s p_images p_kept p_notes p_held p_soonest v_trace v_typed v_noted v_at v_sort v_start v_value v_vanillaIn f_draft f_text) (w_X5_reads E p_this p_text p_told p_draft p_s p_images p_kept p_notes p_held p_soonest v_trace v_typed v_noted res.2.1 res.2.2.1 res.2.2.2.1 res.2.2.2.2.1 v_vanillaIn res.2.2.2.2.2 f_text) res.1 := by
  refine MutI.of (by decide) (Nat.le_of_ble_eq_true rfl) ?_
  intro p e s m args below meth c Q A X hK hA hret H locs ls hl hP hD hS
  obtain ⟨hx, hb, hml, hown, hts, hrt, hlk⟩ := id X
  have hl : lv_has ls 2 [(0, .ref p_this)] := hl
  unfold f_X5_reads at hf
  refine lv_iconst (v := (0 : Int32)) hx hb dX5_reads_0 (by decide) ?_
  refine lv_istore_n (lv' := [(1, .int (0 : Int32)), (0, .ref p_this)]) hx hb dX5_reads_1 rfl hl (by decide) rfl (fun ls hl => ?_)
  exact b_X5_reads_2 E p_this p_text p_told p_draft p_s p_images p_kept p_notes p_held p_soonest v_trace v_typed v_noted v_vanillaIn f_text res X hK hA hret   FU v_at v_sort v_start v_value f_draft (0 : Int32) hf H locs ls (lv_sub hl [1, 0] rfl) hP hD hS

