abbrev w_X5_follows (E : Ev) (p_this : Nat) (p_text : Nat) (p_told : Nat) (p_draft : Nat) (p_s : Nat) (p_images : Nat) (p_kept : Nat) (p_notes : Nat) (p_held : Nat) (p_soonest : Nat) (v_trace : Int64) (v_typed : Int32) (v_noted : Int32) (v_at : Int32) (v_sort : Int32) (v_start : Int32) (v_value : Int32) (v_vanillaIn : Int32) (f_told : Nat → Int32) (f_s : Nat → Int32) : va_W := [(p_this, .inr (5, [.long v_trace, .ref p_text, .int v_typed, .ref p_told, .ref p_draft, .ref p_s, .ref p_images, .ref p_kept, .ref p_notes, .int v_noted, .int v_at, .int v_sort, .int v_start, .int v_value, .int v_vanillaIn, .ref p_held, .ref p_soonest])), (p_told, .inl (E.2.1, 43, .inl f_told)), (p_s, .inl (E.2.1, 155, .inl f_s))]
set_option maxHeartbeats 4000000 in
set_option maxRecDepth 100000 in
theorem m_X5_follows {l : Launch} (E : Ev) (p_this : Nat) (p_text : Nat) (p_told : Nat) (p_draft : Nat) (p_s : Nat) (p_images : Nat) (p_kept : Nat) (p_notes : Nat) (p_held : Nat) (p_soonest : Nat) (v_trace : Int64) (v_typed : Int32) (v_noted : Int32) (v_at : Int32) (v_sort : Int32) (v_start : Int32) (v_value : Int32) (v_vanillaIn : Int32) (f_told : Nat → Int32) (f_s : Nat → Int32) (x1 : Int32) (res : Int32 × (Nat → Int32)) (hf : f_X5_follows  v_vanillaIn f_told f_s x1 = some res) : MutI l E 3 yX5_follows cX5_follows 3 .int [.ref p_this, .int x1] (w_X5_follows E p_this p_text p_told p_draft p_s p_images p_kept p_notes p_held p_soonest v_trace v_typed v_noted v_at v_sort v_start v_value v_vanillaIn f_told f_s) (w_X5_follows E p_this p_text p_told p_draft p_s p_images p_kept p_notes p_held p_soonest v_trace v_typed v_noted v_at v_sort v_start v_value v_vanillaIn f_told res.2) res.1 := by
  refine MutI.of (by decide) (Nat.le_of_ble_eq_true rfl) ?_
  intro p e s m args below meth c Q A X hK hA hret H locs ls hl hP hD hS
  obtain ⟨hx, hb, hml, hown, hts, hrt, hlk⟩ := id X
  have hl : lv_has ls 3 [(0, .ref p_this), (1, .int x1)] := hl
  unfold f_X5_follows at hf
  refine lv_aload_n hx hb dX5_follows_0 rfl (lv_at hl 0 rfl) ?_
  refine lv_iload_n hx hb dX5_follows_1 rfl (lv_at hl 1 rfl) ?_
  obtain ⟨u_1, hu_1, hf⟩ := ob hf
  refine pV X hK hA hP hS hl.1 (m_X5_isDough (l := l) E p_this p_text p_told p_draft p_s p_images p_kept p_notes p_held p_soonest v_trace v_typed v_noted v_at v_sort v_start v_value v_vanillaIn f_told x1 u_1 hu_1) kRX5_111 [0, 1] rfl rfl rfl rfl ⟨⟨(Nat.le_of_ble_eq_true rfl), (Nat.le_of_ble_eq_true rfl)⟩, Nat.zero_le _, Nat.zero_le _⟩ rfl rfl (Nat.le_of_ble_eq_true rfl) dX5_follows_2 (fun H locs hP hS => ?_)
  refine lv_if_ne (tgt := 10) hx hb dX5_follows_5 (by decide) (fun c_2 => ?_) (fun c_2 => ?_)
  · replace hf := of c_2 hf
    refine lv_aload_n hx hb dX5_follows_10 rfl (lv_at hl 0 rfl) ?_
    refine lv_iload_n hx hb dX5_follows_11 rfl (lv_at hl 1 rfl) ?_
    refine lv_aload_n hx hb dX5_follows_12 rfl (lv_at hl 0 rfl) ?_
    refine gf_RX5_19 X hK hP 0 rfl rfl dX5_follows_13 ?_
    refine lv_bipush (v := (12 : Int32)) hx hb dX5_follows_16 (by decide) ?_
    refine iald X hK hP 2 rfl 12 (by decide) (by decide) dX5_follows_18 ?_
    obtain ⟨u_4, hu_4, hf⟩ := ob hf
    refine pV X hK hA hP hS hl.1 (m_X5_noseOf (l := l) E p_this p_text p_told p_draft p_s p_images p_kept p_notes p_held p_soonest v_trace v_typed v_noted v_at v_sort v_start v_value v_vanillaIn f_told f_s x1 (f_s 12) u_4 hu_4) kRX5_117 [0, 1, 2] rfl rfl rfl rfl ⟨⟨(Nat.le_of_ble_eq_true rfl), (Nat.le_of_ble_eq_true rfl)⟩, Nat.zero_le _, Nat.zero_le _⟩ rfl rfl (Nat.le_of_ble_eq_true rfl) dX5_follows_19 (fun H locs hP hS => ?_)
    refine lv_istore_n (lv' := [(2, .int u_4), (0, .ref p_this), (1, .int x1)]) hx hb dX5_follows_22 rfl hl (by decide) rfl (fun ls hl => ?_)
    refine lv_aload_n hx hb dX5_follows_23 rfl (lv_at hl 1 rfl) ?_
    refine lv_iload_n hx hb dX5_follows_24 rfl (lv_at hl 2 rfl) ?_
    obtain ⟨u_5, hu_5, hf⟩ := ob hf
    refine pV X hK hA hP hS hl.1 (m_X5_mayGo (l := l) E p_this p_text p_told p_draft p_s p_images p_kept p_notes p_held p_soonest v_trace v_typed v_noted v_at v_sort v_start v_value v_vanillaIn f_s f_told x1 u_5 hu_5) kRX5_120 [0, 2, 1] rfl rfl rfl rfl ⟨⟨(Nat.le_of_ble_eq_true rfl), (Nat.le_of_ble_eq_true rfl)⟩, Nat.zero_le _, Nat.zero_le _⟩ rfl rfl (Nat.le_of_ble_eq_true rfl) dX5_follows_25 (fun H locs hP hS => ?_)
    refine lv_if_eq (tgt := 37) hx hb dX5_follows_28 (by decide) (fun c_6 => ?_) (fun c_6 => ?_)
    · replace hf := ot c_6 hf
      refine lv_bipush (v := (-2 : Int32)) hx hb dX5_follows_37 (by decide) ?_
      obtain rfl := Option.some.inj hf
      exact hret H locs _ ls rfl hP hS dX5_follows_39
    · replace hf := of c_6 hf
      refine lv_iload_n hx hb dX5_follows_31 rfl (lv_at hl 0 rfl) ?_
      refine lv_bipush (v := (-9 : Int32)) hx hb dX5_follows_32 (by decide) ?_
      refine lv_icmp_ne (tgt := 40) hx hb dX5_follows_34 (by decide) (fun c_7 => ?_) (fun c_7 => ?_)
      · replace hf := of c_7 hf
        refine lv_aload_n hx hb dX5_follows_40 rfl (lv_at hl 1 rfl) ?_
        obtain ⟨u_8, hu_8, hf⟩ := ob hf
        refine mVv X hK hA hP hD hS hl.1 (m_X5_keeps (l := l) E p_this p_text p_told p_draft p_s p_images p_kept p_notes p_held p_soonest v_trace v_typed v_noted v_at v_sort v_start v_value v_vanillaIn f_s  u_8 hu_8) kRX5_123 [0, 2] rfl rfl (by simp only [w_X5_keeps, List.map]) rfl rfl rfl ⟨⟨(Nat.le_of_ble_eq_true rfl), (Nat.le_of_ble_eq_true rfl)⟩, Nat.zero_le _, Nat.zero_le _⟩ rfl rfl (Nat.le_of_ble_eq_true rfl) dX5_follows_41 (fun H locs hP hD hS => ?_)
        have hP : va_P E.1 classes (w_X5_follows E p_this p_text p_told p_draft p_s p_images p_kept p_notes p_held p_soonest v_trace v_typed v_noted v_at v_sort v_start v_value v_vanillaIn f_told u_8) H := hP
        have hD : va_D A (w_X5_follows E p_this p_text p_told p_draft p_s p_images p_kept p_notes p_held p_soonest v_trace v_typed v_noted v_at v_sort v_start v_value v_vanillaIn f_told u_8) := hD
        refine lv_aload_n hx hb dX5_follows_44 rfl (lv_at hl 1 rfl) ?_
        refine gf_RX5_19 X hK hP 0 rfl rfl dX5_follows_45 ?_
        refine lv_iload_n hx hb dX5_follows_48 rfl (lv_at hl 2 rfl) ?_
        refine lv_iload_n hx hb dX5_follows_49 rfl (lv_at hl 0 rfl) ?_
        obtain ⟨g_9, hf⟩ := og hf
        refine iast X hK hP hD hS 2 rfl _ rfl g_9 dX5_follows_50 (fun H locs hP hD hS => ?_)
        have hP : va_P E.1 classes (w_X5_follows E p_this p_text p_told p_draft p_s p_images p_kept p_notes p_held p_soonest v_trace v_typed v_noted v_at v_sort v_start v_value v_vanillaIn f_told (upd u_8 x1.toNatClampNeg u_4)) H := hP
        have hD : va_D A (w_X5_follows E p_this p_text p_told p_draft p_s p_images p_kept p_notes p_held p_soonest v_trace v_typed v_noted v_at v_sort v_start v_value v_vanillaIn f_told (upd u_8 x1.toNatClampNeg u_4)) := hD
        refine lv_iload_n hx hb dX5_follows_51 rfl (lv_at hl 0 rfl) ?_
        obtain rfl := Option.some.inj hf
        exact hret H locs _ ls rfl hP hS dX5_follows_52
      · replace hf := ot c_7 hf
        refine lv_bipush (v := (-2 : Int32)) hx hb dX5_follows_37 (by decide) ?_
        obtain rfl := Option.some.inj hf
        exact hret H locs _ ls rfl hP hS dX5_follows_39
  · replace hf := ot c_2 hf
    refine lv_iconst (v := (-1 : Int32)) hx hb dX5_follows_8 (by decide) ?_
    obtain rfl := Option.some.inj hf
    exact hret H locs _ ls rfl hP hS dX5_follows_9

abbrev w_X5_puts (E : Ev) (p_this : Nat) (p_text : Nat) (p_told : Nat) (p_draft : Nat) (p_s : Nat) (p_images : Nat) (p_kept : Nat) (p_notes : Nat) (p_held : Nat) (p_soonest : Nat) (v_trace : Int64) (v_typed : Int32) (v_noted : Int32) (v_at : Int32) (v_sort : Int32) (v_start : Int32) (v_value : Int32) (v_vanillaIn : Int32) (f_told : Nat → Int32) (f_s : Nat → Int32) : va_W := [(p_this, .inr (5, [.long v_trace, .ref p_text, .int v_typed, .ref p_told, .ref p_draft, .ref p_s, .ref p_images, .ref p_kept, .ref p_notes, .int v_noted, .int v_at, .int v_sort, .int v_start, .int v_value, .int v_vanillaIn, .ref p_held, .ref p_soonest])), (p_told, .inl (E.2.1, 43, .inl f_told)), (p_s, .inl (E.2.1, 155, .inl f_s))]
set_option maxHeartbeats 4000000 in
set_option maxRecDepth 100000 in
theorem m_X5_puts {l : Launch} (E : Ev) (p_this : Nat) (p_text : Nat) (p_told : Nat) (p_draft : Nat) (p_s : Nat) (p_images : Nat) (p_kept : Nat) (p_notes : Nat) (p_held : Nat) (p_soonest : Nat) (v_trace : Int64) (v_typed : Int32) (v_noted : Int32) (v_at : Int32) (v_sort : Int32) (v_start : Int32) (v_value : Int32) (v_vanillaIn : Int32) (f_told : Nat → Int32) (f_s : Nat → Int32) (x1 : Int32) (x2 : Int32) (res : Int32 × (Nat → Int32)) (hf : f_X5_puts  f_told f_s x1 x2 = some res) : MutI l E 3 yX5_puts cX5_puts 3 .int [.ref p_this, .int x1, .int x2] (w_X5_puts E p_this p_text p_told p_draft p_s p_images p_kept p_notes p_held p_soonest v_trace v_typed v_noted v_at v_sort v_start v_value v_vanillaIn f_told f_s) (w_X5_puts E p_this p_text p_told p_draft p_s p_images p_kept p_notes p_held p_soonest v_trace v_typed v_noted v_at v_sort v_start v_value v_vanillaIn f_told res.2) res.1 := by
  refine MutI.of (by decide) (Nat.le_of_ble_eq_true rfl) ?_
  intro p e s m args below meth c Q A X hK hA hret H locs ls hl hP hD hS
  obtain ⟨hx, hb, hml, hown, hts, hrt, hlk⟩ := id X
  have hl : lv_has ls 3 [(0, .ref p_this), (1, .int x1), (2, .int x2)] := hl
  unfold f_X5_puts at hf
  refine lv_aload_n hx hb dX5_puts_0 rfl (lv_at hl 0 rfl) ?_
  refine lv_iload_n hx hb dX5_puts_1 rfl (lv_at hl 1 rfl) ?_
  obtain ⟨u_1, hu_1, hf⟩ := ob hf
  refine pV X hK hA hP hS hl.1 (m_X5_isDough (l := l) E p_this p_text p_told p_draft p_s p_images p_kept p_notes p_held p_soonest v_trace v_typed v_noted v_at v_sort v_start v_value v_vanillaIn f_told x1 u_1 hu_1) kRX5_111 [0, 1] rfl rfl rfl rfl ⟨⟨(Nat.le_of_ble_eq_true rfl), (Nat.le_of_ble_eq_true rfl)⟩, Nat.zero_le _, Nat.zero_le _⟩ rfl rfl (Nat.le_of_ble_eq_true rfl) dX5_puts_2 (fun H locs hP hS => ?_)
  refine lv_if_eq (tgt := 16) hx hb dX5_puts_5 (by decide) (fun c_2 => ?_) (fun c_2 => ?_)
  · replace hf := ot c_2 hf
    refine lv_iconst (v := (-1 : Int32)) hx hb dX5_puts_16 (by decide) ?_
    obtain rfl := Option.some.inj hf
    exact hret H locs _ ls rfl hP hS dX5_puts_17
  · replace hf := of c_2 hf
    refine lv_aload_n hx hb dX5_puts_8 rfl (lv_at hl 0 rfl) ?_
    refine lv_iload_n hx hb dX5_puts_9 rfl (lv_at hl 2 rfl) ?_
    obtain ⟨u_3, hu_3, hf⟩ := ob hf
    refine pV X hK hA hP hS hl.1 (m_X5_isOven (l := l) E p_this p_text p_told p_draft p_s p_images p_kept p_notes p_held p_soonest v_trace v_typed v_noted v_at v_sort v_start v_value v_vanillaIn f_told x2 u_3 hu_3) kRX5_97 [0, 1] rfl rfl rfl rfl ⟨⟨(Nat.le_of_ble_eq_true rfl), (Nat.le_of_ble_eq_true rfl)⟩, Nat.zero_le _, Nat.zero_le _⟩ rfl rfl (Nat.le_of_ble_eq_true rfl) dX5_puts_10 (fun H locs hP hS => ?_)
    refine lv_if_ne (tgt := 18) hx hb dX5_puts_13 (by decide) (fun c_4 => ?_) (fun c_4 => ?_)
    · replace hf := of c_4 hf
      refine lv_aload_n hx hb dX5_puts_18 rfl (lv_at hl 0 rfl) ?_
      refine lv_iload_n hx hb dX5_puts_19 rfl (lv_at hl 1 rfl) ?_
      obtain ⟨u_5, hu_5, hf⟩ := ob hf
      refine pV X hK hA hP hS hl.1 (m_X5_mayGo (l := l) E p_this p_text p_told p_draft p_s p_images p_kept p_notes p_held p_soonest v_trace v_typed v_noted v_at v_sort v_start v_value v_vanillaIn f_s f_told x1 u_5 hu_5) kRX5_120 [0, 2, 1] rfl rfl rfl rfl ⟨⟨(Nat.le_of_ble_eq_true rfl), (Nat.le_of_ble_eq_true rfl)⟩, Nat.zero_le _, Nat.zero_le _⟩ rfl rfl (Nat.le_of_ble_eq_true rfl) dX5_puts_20 (fun H locs hP hS => ?_)
      refine lv_if_eq (tgt := 34) hx hb dX5_puts_23 (by decide) (fun c_6 => ?_) (fun c_6 => ?_)
      · replace hf := ot c_6 hf
        refine lv_bipush (v := (-2 : Int32)) hx hb dX5_puts_34 (by decide) ?_
        obtain rfl := Option.some.inj hf
        exact hret H locs _ ls rfl hP hS dX5_puts_36
      · replace hf := of c_6 hf
        refine lv_aload_n hx hb dX5_puts_26 rfl (lv_at hl 0 rfl) ?_
        refine lv_iload_n hx hb dX5_puts_27 rfl (lv_at hl 2 rfl) ?_
        obtain ⟨u_7, hu_7, hf⟩ := ob hf
        refine pV X hK hA hP hS hl.1 (m_X5_isShut (l := l) E p_this p_text p_told p_draft p_s p_images p_kept p_notes p_held p_soonest v_trace v_typed v_noted v_at v_sort v_start v_value v_vanillaIn f_s x2 u_7 hu_7) kRX5_104 [0, 2] rfl rfl rfl rfl ⟨⟨(Nat.le_of_ble_eq_true rfl), (Nat.le_of_ble_eq_true rfl)⟩, Nat.zero_le _, Nat.zero_le _⟩ rfl rfl (Nat.le_of_ble_eq_true rfl) dX5_puts_28 (fun H locs hP hS => ?_)
        refine lv_if_eq (tgt := 37) hx hb dX5_puts_31 (by decide) (fun c_8 => ?_) (fun c_8 => ?_)
        · replace hf := ot c_8 hf
          refine lv_aload_n hx hb dX5_puts_37 rfl (lv_at hl 0 rfl) ?_
          obtain ⟨u_9, hu_9, hf⟩ := ob hf
          refine mVv X hK hA hP hD hS hl.1 (m_X5_keeps (l := l) E p_this p_text p_told p_draft p_s p_images p_kept p_notes p_held p_soonest v_trace v_typed v_noted v_at v_sort v_start v_value v_vanillaIn f_s  u_9 hu_9) kRX5_123 [0, 2] rfl rfl (by simp only [w_X5_keeps, List.map]) rfl rfl rfl ⟨⟨(Nat.le_of_ble_eq_true rfl), (Nat.le_of_ble_eq_true rfl)⟩, Nat.zero_le _, Nat.zero_le _⟩ rfl rfl (Nat.le_of_ble_eq_true rfl) dX5_puts_38 (fun H locs hP hD hS => ?_)
          have hP : va_P E.1 classes (w_X5_puts E p_this p_text p_told p_draft p_s p_images p_kept p_notes p_held p_soonest v_trace v_typed v_noted v_at v_sort v_start v_value v_vanillaIn f_told u_9) H := hP
          have hD : va_D A (w_X5_puts E p_this p_text p_told p_draft p_s p_images p_kept p_notes p_held p_soonest v_trace v_typed v_noted v_at v_sort v_start v_value v_vanillaIn f_told u_9) := hD
          refine lv_aload_n hx hb dX5_puts_41 rfl (lv_at hl 0 rfl) ?_
          refine gf_RX5_19 X hK hP 0 rfl rfl dX5_puts_42 ?_
          refine lv_iload_n hx hb dX5_puts_45 rfl (lv_at hl 1 rfl) ?_
          refine lv_iload_n hx hb dX5_puts_46 rfl (lv_at hl 2 rfl) ?_
          obtain ⟨g_10, hf⟩ := og hf
          refine iast X hK hP hD hS 2 rfl _ rfl g_10 dX5_puts_47 (fun H locs hP hD hS => ?_)
          have hP : va_P E.1 classes (w_X5_puts E p_this p_text p_told p_draft p_s p_images p_kept p_notes p_held p_soonest v_trace v_typed v_noted v_at v_sort v_start v_value v_vanillaIn f_told (upd u_9 x1.toNatClampNeg x2)) H := hP
          have hD : va_D A (w_X5_puts E p_this p_text p_told p_draft p_s p_images p_kept p_notes p_held p_soonest v_trace v_typed v_noted v_at v_sort v_start v_value v_vanillaIn f_told (upd u_9 x1.toNatClampNeg x2)) := hD
          refine lv_aload_n hx hb dX5_puts_48 rfl (lv_at hl 0 rfl) ?_
          refine lv_iload_n hx hb dX5_puts_49 rfl (lv_at hl 2 rfl) ?_
          obtain ⟨u_11, hu_11, hf⟩ := ob hf
          refine pV X hK hA hP hS hl.1 (m_X5_whereAll (l := l) E p_this p_text p_told p_draft p_s p_images p_kept p_notes p_held p_soonest v_trace v_typed v_noted v_at v_sort v_start v_value v_vanillaIn f_told (upd u_9 x1.toNatClampNeg x2) x2 u_11 hu_11) kRX5_91 [0, 1, 2] rfl rfl rfl rfl ⟨⟨(Nat.le_of_ble_eq_true rfl), (Nat.le_of_ble_eq_true rfl)⟩, Nat.zero_le _, Nat.zero_le _⟩ rfl rfl (Nat.le_of_ble_eq_true rfl) dX5_puts_50 (fun H locs hP hS => ?_)
          obtain ⟨u_12, hu_12, hf⟩ := ob hf
          refine pS X hK hA hP hS hl.1 (m_X5_ones (l := l) E   u_11 u_12 hu_12) kRX5_94 ⟨⟨(Nat.le_of_ble_eq_true rfl), (Nat.le_of_ble_eq_true rfl)⟩, Nat.zero_le _, Nat.zero_le _⟩ rfl rfl (Nat.le_of_ble_eq_true rfl) dX5_puts_53 (fun H locs hP hS => ?_)
          obtain rfl := Option.some.inj hf
          exact hret H locs _ ls rfl hP hS dX5_puts_56
        · replace hf := of c_8 hf
          refine lv_bipush (v := (-2 : Int32)) hx hb dX5_puts_34 (by decide) ?_
          obtain rfl := Option.some.inj hf
          exact hret H locs _ ls rfl hP hS dX5_puts_36
    · replace hf := ot c_4 hf
      refine lv_iconst (v := (-1 : Int32)) hx hb dX5_puts_16 (by decide) ?_
      obtain rfl := Option.some.inj hf
      exact hret H locs _ ls rfl hP hS dX5_puts_17

abbrev w_X5_passes (E : Ev) (p_this : Nat) (p_text : Nat) (p_told : Nat) (p_draft : Nat) (p_s : Nat) (p_images : Nat) (p_kept : Nat) (p_notes : Nat) (p_held : Nat) (p_soonest : Nat) (v_trace : Int64) (v_typed : Int32) (v_noted : Int32) (v_at : Int32) (v_sort : Int32) (v_start : Int32) (v_value : Int32) (v_vanillaIn : Int32) (f_told : Nat → Int32) (f_s : Nat → Int32) : va_W := [(p_this, .inr (5, [.long v_trace, .ref p_text, .int v_typed, .ref p_told, .ref p_draft, .ref p_s, .ref p_images, .ref p_kept, .ref p_notes, .int v_noted, .int v_at, .int v_sort, .int v_start, .int v_value, .int v_vanillaIn, .ref p_held, .ref p_soonest])), (p_told, .inl (E.2.1, 43, .inl f_told)), (p_s, .inl (E.2.1, 155, .inl f_s))]
set_option maxHeartbeats 4000000 in
set_option maxRecDepth 100000 in
theorem b_X5_passes_57 {p : Program} {l : Launch} {e : Env} {s : State} {m : MethodId} {args : Array Value} {below : List Frame} {meth : Method} {c : Code} {Q : State → Prop} {A : Nat → Prop} (E : Ev) (p_this : Nat) (p_text : Nat) (p_told : Nat) (p_draft : Nat) (p_s : Nat) (p_images : Nat) (p_kept : Nat) (p_notes : Nat) (p_held : Nat) (p_soonest : Nat) (v_trace : Int64) (v_typed : Int32) (v_noted : Int32) (v_at : Int32) (v_sort : Int32) (v_start : Int32) (v_value : Int32) (v_vanillaIn : Int32) (f_told : Nat → Int32) (res : Int32 × (Nat → Int32)) (X : Cx p s m args meth c cX5_passes 3 RX5 (some .int)) (hK : KK E A s s.heap) (hA : ∀ q, s.heap.size ≤ q → A q) (hret : RetI p l e (RM 3) s m args below meth c Q E A cX5_passes .int (w_X5_passes E p_this p_text p_told p_draft p_s p_images p_kept p_notes p_held p_soonest v_trace v_typed v_noted v_at v_sort v_start v_value v_vanillaIn f_told res.2) res.1)  : ∀ (n : Nat) (f_s : Nat → Int32) (x1 : Int32) (x2 : Int32), f_X5_passes_57 f_told   n f_s x1 x2 = some res → ∀ (H : Heap) (locs : List Loc) (ls : Array Slot), lv_has ls 3 [(0, .ref p_this), (1, .int x1), (2, .int x2)] → va_P E.1 classes (w_X5_passes E p_this p_text p_told p_draft p_s p_images p_kept p_notes p_held p_soonest v_trace v_typed v_noted v_at v_sort v_start v_value v_vanillaIn f_told f_s) H → va_D A (w_X5_passes E p_this p_text p_told p_draft p_s p_images p_kept p_notes p_held p_soonest v_trace v_typed v_noted v_at v_sort v_start v_value v_vanillaIn f_told f_s) → va_S A s.heap H locs → W p l e (RM 3) s m args below meth c H locs 0 0 Q (F0 m 57 ls []) := by
  obtain ⟨hx, hb, hml, hown, hts, hrt, hlk⟩ := id X
  intro n
  induction n with
  | zero => intro f_s x1 x2 hf; exact absurd hf (by simp [f_X5_passes_57])
  | succ n ih =>
    intro f_s x1 x2 hf H locs ls hl hP hD hS
    unfold f_X5_passes_57 at hf
    refine lv_iload_n hx hb dX5_passes_57 rfl (lv_at hl 2 rfl) ?_
    refine lv_aload_n hx hb dX5_passes_58 rfl (lv_at hl 0 rfl) ?_
    refine gf_RX5_13 X hK hP 0 rfl rfl dX5_passes_59 ?_
    refine lv_iconst (v := (1 : Int32)) hx hb dX5_passes_62 (by decide) ?_
    refine iald X hK hP 1 rfl 1 (by decide) (by decide) dX5_passes_63 ?_
    refine lv_icmp_ge (tgt := 114) hx hb dX5_passes_64 (by decide) (fun c_2 => ?_) (fun c_2 => ?_)
    · replace hf := ot c_2 hf
      refine lv_aload_n hx hb dX5_passes_114 rfl (lv_at hl 0 rfl) ?_
      refine gf_RX5_19 X hK hP 0 rfl rfl dX5_passes_115 ?_
      refine lv_bipush (v := (13 : Int32)) hx hb dX5_passes_118 (by decide) ?_
      refine lv_dup2_11 hx hb dX5_passes_120 rfl rfl ?_
      refine iald X hK hP 2 rfl 13 (by decide) (by decide) dX5_passes_121 ?_
      refine lv_iconst (v := (1 : Int32)) hx hb dX5_passes_122 (by decide) ?_
      refine lv_iadd hx hb dX5_passes_123 ?_
      refine iast X hK hP hD hS 2 rfl 13 (by decide) (by decide) dX5_passes_124 (fun H locs hP hD hS => ?_)
      have hP : va_P E.1 classes (w_X5_passes E p_this p_text p_told p_draft p_s p_images p_kept p_notes p_held p_soonest v_trace v_typed v_noted v_at v_sort v_start v_value v_vanillaIn f_told (upd f_s 13 ((f_s 13) + (1 : Int32)))) H := hP
      have hD : va_D A (w_X5_passes E p_this p_text p_told p_draft p_s p_images p_kept p_notes p_held p_soonest v_trace v_typed v_noted v_at v_sort v_start v_value v_vanillaIn f_told (upd f_s 13 ((f_s 13) + (1 : Int32)))) := hD
      refine lv_iload_n hx hb dX5_passes_125 rfl (lv_at hl 1 rfl) ?_
      obtain rfl := Option.some.inj hf
      exact hret H locs _ ls rfl hP hS dX5_passes_126
    · replace hf := of c_2 hf
      refine lv_aload_n hx hb dX5_passes_67 rfl (lv_at hl 0 rfl) ?_
      refine gf_RX5_19 X hK hP 0 rfl rfl dX5_passes_68 ?_
      refine lv_iload_n hx hb dX5_passes_71 rfl (lv_at hl 2 rfl) ?_
      obtain ⟨g_5, hf⟩ := og hf
      refine iald X hK hP 2 rfl _ rfl g_5 dX5_passes_72 ?_
      refine lv_if_lt (tgt := 108) hx hb dX5_passes_73 (by decide) (fun c_6 => ?_) (fun c_6 => ?_)
      · replace hf := ot c_6 hf
        refine lv_iinc (v := (x2 + (1 : Int32))) (lv' := [(2, .int (x2 + (1 : Int32))), (0, .ref p_this), (1, .int x1)]) hx hb dX5_passes_108 hl (k := 2) rfl rfl (by decide) rfl (fun ls hl => ?_)
        refine lv_goto (tgt := 57) hx hb dX5_passes_111 (by decide) ?_
        exact ih f_s x1 (x2 + (1 : Int32)) hf H locs ls (lv_sub hl [1, 2, 0] rfl) hP hD hS
      · replace hf := of c_6 hf
        refine lv_aload_n hx hb dX5_passes_76 rfl (lv_at hl 0 rfl) ?_
        refine gf_RX5_19 X hK hP 0 rfl rfl dX5_passes_77 ?_
        refine lv_bipush (v := (6 : Int32)) hx hb dX5_passes_80 (by decide) ?_
        refine lv_iload_n hx hb dX5_passes_82 rfl (lv_at hl 2 rfl) ?_
        refine lv_iadd hx hb dX5_passes_83 ?_
        obtain ⟨g_7, hf⟩ := og hf
        refine iald X hK hP 2 rfl _ rfl g_7 dX5_passes_84 ?_
        refine lv_aload_n hx hb dX5_passes_85 rfl (lv_at hl 0 rfl) ?_
        refine gf_RX5_13 X hK hP 0 rfl rfl dX5_passes_86 ?_
        refine lv_bipush (v := (25 : Int32)) hx hb dX5_passes_89 (by decide) ?_
        refine lv_iload_n hx hb dX5_passes_91 rfl (lv_at hl 2 rfl) ?_
        refine lv_iadd hx hb dX5_passes_92 ?_
        obtain ⟨g_8, hf⟩ := og hf
        refine iald X hK hP 1 rfl _ rfl g_8 dX5_passes_93 ?_
        refine lv_icmp_lt (tgt := 108) hx hb dX5_passes_94 (by decide) (fun c_9 => ?_) (fun c_9 => ?_)
        · replace hf := ot c_9 hf
          refine lv_iinc (v := (x2 + (1 : Int32))) (lv' := [(2, .int (x2 + (1 : Int32))), (0, .ref p_this), (1, .int x1)]) hx hb dX5_passes_108 hl (k := 2) rfl rfl (by decide) rfl (fun ls hl => ?_)
          refine lv_goto (tgt := 57) hx hb dX5_passes_111 (by decide) ?_
          exact ih f_s x1 (x2 + (1 : Int32)) hf H locs ls (lv_sub hl [1, 2, 0] rfl) hP hD hS
        · replace hf := of c_9 hf
          refine lv_aload_n hx hb dX5_passes_97 rfl (lv_at hl 0 rfl) ?_
          refine gf_RX5_19 X hK hP 0 rfl rfl dX5_passes_98 ?_
          refine lv_iload_n hx hb dX5_passes_101 rfl (lv_at hl 2 rfl) ?_
          refine lv_bipush (v := (-5 : Int32)) hx hb dX5_passes_102 (by decide) ?_
          obtain ⟨g_10, hf⟩ := og hf
          refine iast X hK hP hD hS 2 rfl _ rfl g_10 dX5_passes_104 (fun H locs hP hD hS => ?_)
          have hP : va_P E.1 classes (w_X5_passes E p_this p_text p_told p_draft p_s p_images p_kept p_notes p_held p_soonest v_trace v_typed v_noted v_at v_sort v_start v_value v_vanillaIn f_told (upd f_s x2.toNatClampNeg (-5 : Int32))) H := hP
          have hD : va_D A (w_X5_passes E p_this p_text p_told p_draft p_s p_images p_kept p_notes p_held p_soonest v_trace v_typed v_noted v_at v_sort v_start v_value v_vanillaIn f_told (upd f_s x2.toNatClampNeg (-5 : Int32))) := hD
          refine lv_iinc (v := (x1 + (1 : Int32))) (lv' := [(1, .int (x1 + (1 : Int32))), (0, .ref p_this), (2, .int x2)]) hx hb dX5_passes_105 hl (k := 1) rfl rfl (by decide) rfl (fun ls hl => ?_)
          refine lv_iinc (v := (x2 + (1 : Int32))) (lv' := [(2, .int (x2 + (1 : Int32))), (1, .int (x1 + (1 : Int32))), (0, .ref p_this)]) hx hb dX5_passes_108 hl (k := 2) rfl rfl (by decide) rfl (fun ls hl => ?_)
          refine lv_goto (tgt := 57) hx hb dX5_passes_111 (by decide) ?_
          exact ih (upd f_s x2.toNatClampNeg (-5 : Int32)) (x1 + (1 : Int32)) (x2 + (1 : Int32)) hf H locs ls (lv_sub hl [2, 1, 0] rfl) hP hD hS

set_option maxHeartbeats 4000000 in
set_option maxRecDepth 100000 in
theorem b_X5_passes_47 {p : Program} {l : Launch} {e : Env} {s : State} {m : MethodId} {args : Array Value} {below : List Frame} {meth : Method} {c : Code} {Q : State → Prop} {A : Nat → Prop} (E : Ev) (p_this : Nat) (p_text : Nat) (p_told : Nat) (p_draft : Nat) (p_s : Nat) (p_images : Nat) (p_kept : Nat) (p_notes : Nat) (p_held : Nat) (p_soonest : Nat) (v_trace : Int64) (v_typed : Int32) (v_noted : Int32) (v_at : Int32) (v_sort : Int32) (v_start : Int32) (v_value : Int32) (v_vanillaIn : Int32) (f_told : Nat → Int32) (res : Int32 × (Nat → Int32)) (X : Cx p s m args meth c cX5_passes 3 RX5 (some .int)) (hK : KK E A s s.heap) (hA : ∀ q, s.heap.size ≤ q → A q) (hret : RetI p l e (RM 3) s m args below meth c Q E A cX5_passes .int (w_X5_passes E p_this p_text p_told p_draft p_s p_images p_kept p_notes p_held p_soonest v_trace v_typed v_noted v_at v_sort v_start v_value v_vanillaIn f_told res.2) res.1) (K4 : (Nat → Int32) → Int32 → Int32 → Option (Int32 × (Nat → Int32))) (hK4 : ∀ (f_s : Nat → Int32) (x1 : Int32) (x2 : Int32), K4 f_s x1 x2 = some res → ∀ (H : Heap) (locs : List Loc) (ls : Array Slot), lv_has ls 3 [(0, .ref p_this), (1, .int x1), (2, .int x2)] → va_P E.1 classes (w_X5_passes E p_this p_text p_told p_draft p_s p_images p_kept p_notes p_held p_soonest v_trace v_typed v_noted v_at v_sort v_start v_value v_vanillaIn f_told f_s) H → va_D A (w_X5_passes E p_this p_text p_told p_draft p_s p_images p_kept p_notes p_held p_soonest v_trace v_typed v_noted v_at v_sort v_start v_value v_vanillaIn f_told f_s) → va_S A s.heap H locs → W p l e (RM 3) s m args below meth c H locs 0 0 Q (F0 m 4 ls [])) (f_s : Nat → Int32) (x1 : Int32) (x2 : Int32) (k0 : Int32) (k1 : Int32) (k2 : Int32) (hf : f_X5_passes_47 f_told  K4 f_s x1 x2 k0 k1 k2 = some res) : ∀ (H : Heap) (locs : List Loc) (ls : Array Slot), lv_has ls 3 [(0, .ref p_this), (1, .int x1), (2, .int x2)] → va_P E.1 classes (w_X5_passes E p_this p_text p_told p_draft p_s p_images p_kept p_notes p_held p_soonest v_trace v_typed v_noted v_at v_sort v_start v_value v_vanillaIn f_told f_s) H → va_D A (w_X5_passes E p_this p_text p_told p_draft p_s p_images p_kept p_notes p_held p_soonest v_trace v_typed v_noted v_at v_sort v_start v_value v_vanillaIn f_told f_s) → va_S A s.heap H locs → W p l e (RM 3) s m args below meth c H locs 0 0 Q (F0 m 47 ls [.int k0, .int k1, .int k2, .ref p_s]) := by
  obtain ⟨hx, hb, hml, hown, hts, hrt, hlk⟩ := id X
  intro H locs ls hl hP hD hS
  unfold f_X5_passes_47 at hf
  refine lv_iadd hx hb dX5_passes_47 ?_
  obtain ⟨g_1, hf⟩ := og hf
  refine iast X hK hP hD hS 2 rfl _ rfl g_1 dX5_passes_48 (fun H locs hP hD hS => ?_)
  have hP : va_P E.1 classes (w_X5_passes E p_this p_text p_told p_draft p_s p_images p_kept p_notes p_held p_soonest v_trace v_typed v_noted v_at v_sort v_start v_value v_vanillaIn f_told (upd f_s k2.toNatClampNeg (k1 + k0))) H := hP
  have hD : va_D A (w_X5_passes E p_this p_text p_told p_draft p_s p_images p_kept p_notes p_held p_soonest v_trace v_typed v_noted v_at v_sort v_start v_value v_vanillaIn f_told (upd f_s k2.toNatClampNeg (k1 + k0))) := hD
  refine lv_iinc (v := (x2 + (1 : Int32))) (lv' := [(2, .int (x2 + (1 : Int32))), (0, .ref p_this), (1, .int x1)]) hx hb dX5_passes_49 hl (k := 2) rfl rfl (by decide) rfl (fun ls hl => ?_)
  refine lv_goto (tgt := 4) hx hb dX5_passes_52 (by decide) ?_
  exact hK4 (upd f_s k2.toNatClampNeg (k1 + k0)) x1 (x2 + (1 : Int32)) hf H locs ls (lv_sub hl [1, 2, 0] rfl) hP hD hS

set_option maxHeartbeats 4000000 in
set_option maxRecDepth 100000 in
theorem b_X5_passes_4 {p : Program} {l : Launch} {e : Env} {s : State} {m : MethodId} {args : Array Value} {below : List Frame} {meth : Method} {c : Code} {Q : State → Prop} {A : Nat → Prop} (E : Ev) (p_this : Nat) (p_text : Nat) (p_told : Nat) (p_draft : Nat) (p_s : Nat) (p_images : Nat) (p_kept : Nat) (p_notes : Nat) (p_held : Nat) (p_soonest : Nat) (v_trace : Int64) (v_typed : Int32) (v_noted : Int32) (v_at : Int32) (v_sort : Int32) (v_start : Int32) (v_value : Int32) (v_vanillaIn : Int32) (f_told : Nat → Int32) (res : Int32 × (Nat → Int32)) (X : Cx p s m args meth c cX5_passes 3 RX5 (some .int)) (hK : KK E A s s.heap) (hA : ∀ q, s.heap.size ≤ q → A q) (hret : RetI p l e (RM 3) s m args below meth c Q E A cX5_passes .int (w_X5_passes E p_this p_text p_told p_draft p_s p_images p_kept p_notes p_held p_soonest v_trace v_typed v_noted v_at v_sort v_start v_value v_vanillaIn f_told res.2) res.1)  : ∀ (n : Nat) (f_s : Nat → Int32) (x1 : Int32) (x2 : Int32), f_X5_passes_4 f_told   n f_s x1 x2 = some res → ∀ (H : Heap) (locs : List Loc) (ls : Array Slot), lv_has ls 3 [(0, .ref p_this), (1, .int x1), (2, .int x2)] → va_P E.1 classes (w_X5_passes E p_this p_text p_told p_draft p_s p_images p_kept p_notes p_held p_soonest v_trace v_typed v_noted v_at v_sort v_start v_value v_vanillaIn f_told f_s) H → va_D A (w_X5_passes E p_this p_text p_told p_draft p_s p_images p_kept p_notes p_held p_soonest v_trace v_typed v_noted v_at v_sort v_start v_value v_vanillaIn f_told f_s) → va_S A s.heap H locs → W p l e (RM 3) s m args below meth c H locs 0 0 Q (F0 m 4 ls []) := by
  obtain ⟨hx, hb, hml, hown, hts, hrt, hlk⟩ := id X
  intro n
  induction n with
  | zero => intro f_s x1 x2 hf; exact absurd hf (by simp [f_X5_passes_4])
  | succ n ih =>
    intro f_s x1 x2 hf H locs ls hl hP hD hS
    unfold f_X5_passes_4 at hf
    refine lv_iload_n hx hb dX5_passes_4 rfl (lv_at hl 2 rfl) ?_
    refine lv_aload_n hx hb dX5_passes_5 rfl (lv_at hl 0 rfl) ?_
    refine gf_RX5_13 X hK hP 0 rfl rfl dX5_passes_6 ?_
    refine lv_iconst (v := (1 : Int32)) hx hb dX5_passes_9 (by decide) ?_
    refine iald X hK hP 1 rfl 1 (by decide) (by decide) dX5_passes_10 ?_
    refine lv_icmp_ge (tgt := 55) hx hb dX5_passes_11 (by decide) (fun c_2 => ?_) (fun c_2 => ?_)
    · replace hf := ot c_2 hf
      refine lv_iconst (v := (0 : Int32)) hx hb dX5_passes_55 (by decide) ?_
      refine lv_istore_n (lv' := [(2, .int (0 : Int32)), (0, .ref p_this), (1, .int x1)]) hx hb dX5_passes_56 rfl hl (by decide) rfl (fun ls hl => ?_)
      exact b_X5_passes_57 E p_this p_text p_told p_draft p_s p_images p_kept p_notes p_held p_soonest v_trace v_typed v_noted v_at v_sort v_start v_value v_vanillaIn f_told res X hK hA hret   FU f_s x1 (0 : Int32) hf H locs ls (lv_sub hl [1, 2, 0] rfl) hP hD hS
    · replace hf := of c_2 hf
      refine lv_aload_n hx hb dX5_passes_14 rfl (lv_at hl 0 rfl) ?_
      refine gf_RX5_19 X hK hP 0 rfl rfl dX5_passes_15 ?_
      refine lv_bipush (v := (6 : Int32)) hx hb dX5_passes_18 (by decide) ?_
      refine lv_iload_n hx hb dX5_passes_20 rfl (lv_at hl 2 rfl) ?_
      refine lv_iadd hx hb dX5_passes_21 ?_
      refine lv_dup2_11 hx hb dX5_passes_22 rfl rfl ?_
      obtain ⟨g_3, hf⟩ := og hf
      refine iald X hK hP 2 rfl _ rfl g_3 dX5_passes_23 ?_
      refine lv_aload_n hx hb dX5_passes_24 rfl (lv_at hl 0 rfl) ?_
      refine gf_RX5_19 X hK hP 0 rfl rfl dX5_passes_25 ?_
      refine lv_iload_n hx hb dX5_passes_28 rfl (lv_at hl 2 rfl) ?_
      obtain ⟨g_4, hf⟩ := og hf
      refine iald X hK hP 2 rfl _ rfl g_4 dX5_passes_29 ?_
      refine lv_if_lt (tgt := 46) hx hb dX5_passes_30 (by decide) (fun c_5 => ?_) (fun c_5 => ?_)
      · replace hf := ot c_5 hf
        refine lv_iconst (v := (0 : Int32)) hx hb dX5_passes_46 (by decide) ?_
        exact b_X5_passes_47 E p_this p_text p_told p_draft p_s p_images p_kept p_notes p_held p_soonest v_trace v_typed v_noted v_at v_sort v_start v_value v_vanillaIn f_told res X hK hA hret  (f_X5_passes_4 f_told   n) ih f_s x1 x2 (0 : Int32) (f_s ((6 : Int32) + x2).toNatClampNeg) ((6 : Int32) + x2) hf H locs ls (lv_sub hl [0, 1, 2] rfl) hP hD hS
      · replace hf := of c_5 hf
        refine lv_aload_n hx hb dX5_passes_33 rfl (lv_at hl 0 rfl) ?_
        refine lv_aload_n hx hb dX5_passes_34 rfl (lv_at hl 0 rfl) ?_
        refine gf_RX5_19 X hK hP 0 rfl rfl dX5_passes_35 ?_
        refine lv_iload_n hx hb dX5_passes_38 rfl (lv_at hl 2 rfl) ?_
        obtain ⟨g_6, hf⟩ := og hf
        refine iald X hK hP 2 rfl _ rfl g_6 dX5_passes_39 ?_
        obtain ⟨u_7, hu_7, hf⟩ := ob hf
        refine pV X hK hA hP hS hl.1 (m_X5_hot (l := l) E p_this p_text p_told p_draft p_s p_images p_kept p_notes p_held p_soonest v_trace v_typed v_noted v_at v_sort v_start v_value v_vanillaIn f_told f_s (f_s x2.toNatClampNeg) u_7 hu_7) kRX5_101 [0, 1, 2] rfl rfl rfl rfl ⟨⟨(Nat.le_of_ble_eq_true rfl), (Nat.le_of_ble_eq_true rfl)⟩, Nat.zero_le _, Nat.zero_le _⟩ rfl rfl (Nat.le_of_ble_eq_true rfl) dX5_passes_40 (fun H locs hP hS => ?_)
        refine lv_goto (tgt := 47) hx hb dX5_passes_43 (by decide) ?_
        exact b_X5_passes_47 E p_this p_text p_told p_draft p_s p_images p_kept p_notes p_held p_soonest v_trace v_typed v_noted v_at v_sort v_start v_value v_vanillaIn f_told res X hK hA hret  (f_X5_passes_4 f_told   n) ih f_s x1 x2 u_7 (f_s ((6 : Int32) + x2).toNatClampNeg) ((6 : Int32) + x2) hf H locs ls (lv_sub hl [0, 1, 2] rfl) hP hD hS

set_option maxHeartbeats 4000000 in
set_option maxRecDepth 100000 in
theorem m_X5_passes {l : Launch} (E : Ev) (p_this : Nat) (p_text : Nat) (p_told : Nat) (p_draft : Nat) (p_s : Nat) (p_images : Nat) (p_kept : Nat) (p_notes : Nat) (p_held : Nat) (p_soonest : Nat) (v_trace : Int64) (v_typed : Int32) (v_noted : Int32) (v_at : Int32) (v_sort : Int32) (v_start : Int32) (v_value : Int32) (v_vanillaIn : Int32) (f_told : Nat → Int32) (f_s : Nat → Int32)  (res : Int32 × (Nat → Int32)) (hf : f_X5_passes  f_told f_s  = some res) : MutI l E 3 yX5_passes cX5_passes 3 .int [.ref p_this] (w_X5_passes E p_this p_text p_told p_draft p_s p_images p_kept p_notes p_held p_soonest v_trace v_typed v_noted v_at v_sort v_start v_value v_vanillaIn f_told f_s) (w_X5_passes E p_this p_text p_told p_draft p_s p_images p_kept p_notes p_held p_soonest v_trace v_typed v_noted v_at v_sort v_start v_value v_vanillaIn f_told res.2) res.1 := by
  refine MutI.of (by decide) (Nat.le_of_ble_eq_true rfl) ?_
  intro p e s m args below meth c Q A X hK hA hret H locs ls hl hP hD hS
  obtain ⟨hx, hb, hml, hown, hts, hrt, hlk⟩ := id X
  have hl : lv_has ls 3 [(0, .ref p_this)] := hl
  unfold f_X5_passes at hf
  refine lv_iconst (v := (0 : Int32)) hx hb dX5_passes_0 (by decide) ?_
  refine lv_istore_n (lv' := [(1, .int (0 : Int32)), (0, .ref p_this)]) hx hb dX5_passes_1 rfl hl (by decide) rfl (fun ls hl => ?_)
  refine lv_iconst (v := (0 : Int32)) hx hb dX5_passes_2 (by decide) ?_
  refine lv_istore_n (lv' := [(2, .int (0 : Int32)), (1, .int (0 : Int32)), (0, .ref p_this)]) hx hb dX5_passes_3 rfl hl (by decide) rfl (fun ls hl => ?_)
  exact b_X5_passes_4 E p_this p_text p_told p_draft p_s p_images p_kept p_notes p_held p_soonest v_trace v_typed v_noted v_at v_sort v_start v_value v_vanillaIn f_told res X hK hA hret   FU f_s (0 : Int32) (0 : Int32) hf H locs ls (lv_sub hl [2, 1, 0] rfl) hP hD hS

abbrev w_X5_minutes (E : Ev) (p_this : Nat) (p_text : Nat) (p_told : Nat) (p_draft : Nat) (p_s : Nat) (p_images : Nat) (p_kept : Nat) (p_notes : Nat) (p_held : Nat) (p_soonest : Nat) (v_trace : Int64) (v_typed : Int32) (v_noted : Int32) (v_at : Int32) (v_sort : Int32) (v_start : Int32) (v_value : Int32) (v_vanillaIn : Int32) (f_s : Nat → Int32) (f_told : Nat → Int32) : va_W := [(p_this, .inr (5, [.long v_trace, .ref p_text, .int v_typed, .ref p_told, .ref p_draft, .ref p_s, .ref p_images, .ref p_kept, .ref p_notes, .int v_noted, .int v_at, .int v_sort, .int v_start, .int v_value, .int v_vanillaIn, .ref p_held, .ref p_soonest])), (p_s, .inl (E.2.1, 155, .inl f_s)), (p_told, .inl (E.2.1, 43, .inl f_told))]
set_option maxHeartbeats 4000000 in
set_option maxRecDepth 100000 in
theorem b_X5_minutes_38 {p : Program} {l : Launch} {e : Env} {s : State} {m : MethodId} {args : Array Value} {below : List Frame} {meth : Method} {c : Code} {Q : State → Prop} {A : Nat → Prop} (E : Ev) (p_this : Nat) (p_text : Nat) (p_told : Nat) (p_draft : Nat) (p_s : Nat) (p_images : Nat) (p_kept : Nat) (p_notes : Nat) (p_held : Nat) (p_soonest : Nat) (v_trace : Int64) (v_typed : Int32) (v_noted : Int32) (v_at : Int32) (v_sort : Int32) (v_start : Int32) (v_value : Int32) (v_vanillaIn : Int32) (f_told : Nat → Int32) (res : Int32 × (Nat → Int32)) (X : Cx p s m args meth c cX5_minutes 4 RX5 (some .int)) (hK : KK E A s s.heap) (hA : ∀ q, s.heap.size ≤ q → A q) (hret : RetI p l e (RM 4) s m args below meth c Q E A cX5_minutes .int (w_X5_minutes E p_this p_text p_told p_draft p_s p_images p_kept p_notes p_held p_soonest v_trace v_typed v_noted v_at v_sort v_start v_value v_vanillaIn res.2 f_told) res.1)  : ∀ (n : Nat) (f_s : Nat → Int32) (x1 : Int32) (x2 : Int32) (x3 : Int32), f_X5_minutes_38 f_told   n f_s x1 x2 x3 = some res → ∀ (H : Heap) (locs : List Loc) (ls : Array Slot), lv_has ls 4 [(0, .ref p_this), (1, .int x1), (2, .int x2), (3, .int x3)] → va_P E.1 classes (w_X5_minutes E p_this p_text p_told p_draft p_s p_images p_kept p_notes p_held p_soonest v_trace v_typed v_noted v_at v_sort v_start v_value v_vanillaIn f_s f_told) H → va_D A (w_X5_minutes E p_this p_text p_told p_draft p_s p_images p_kept p_notes p_held p_soonest v_trace v_typed v_noted v_at v_sort v_start v_value v_vanillaIn f_s f_told) → va_S A s.heap H locs → W p l e (RM 4) s m args below meth c H locs 0 0 Q (F0 m 38 ls []) := by
  obtain ⟨hx, hb, hml, hown, hts, hrt, hlk⟩ := id X
  intro n
  induction n with
  | zero => intro f_s x1 x2 x3 hf; exact absurd hf (by simp [f_X5_minutes_38])
  | succ n ih =>
    intro f_s x1 x2 x3 hf H locs ls hl hP hD hS
    unfold f_X5_minutes_38 at hf
    refine lv_iload_n hx hb dX5_minutes_38 rfl (lv_at hl 3 rfl) ?_
    refine lv_iload_n hx hb dX5_minutes_39 rfl (lv_at hl 1 rfl) ?_
    refine lv_icmp_ge (tgt := 56) hx hb dX5_minutes_40 (by decide) (fun c_1 => ?_) (fun c_1 => ?_)
    · replace hf := ot c_1 hf
      refine lv_iload_n hx hb dX5_minutes_56 rfl (lv_at hl 2 rfl) ?_
      obtain rfl := Option.some.inj hf
      exact hret H locs _ ls rfl hP hS dX5_minutes_57
    · replace hf := of c_1 hf
      refine lv_iload_n hx hb dX5_minutes_43 rfl (lv_at hl 2 rfl) ?_
      refine lv_aload_n hx hb dX5_minutes_44 rfl (lv_at hl 0 rfl) ?_
      obtain ⟨u_2, hu_2, hf⟩ := ob hf
      refine mV X hK hA hP hD hS hl.1 (m_X5_passes (l := l) E p_this p_text p_told p_draft p_s p_images p_kept p_notes p_held p_soonest v_trace v_typed v_noted v_at v_sort v_start v_value v_vanillaIn f_told f_s  u_2 hu_2) kRX5_126 [0, 2, 1] rfl rfl (by simp only [w_X5_passes, List.map]) rfl rfl rfl ⟨⟨(Nat.le_of_ble_eq_true rfl), (Nat.le_of_ble_eq_true rfl)⟩, Nat.zero_le _, Nat.zero_le _⟩ rfl rfl (Nat.le_of_ble_eq_true rfl) dX5_minutes_45 (fun H locs hP hD hS => ?_)
      have hP : va_P E.1 classes (w_X5_minutes E p_this p_text p_told p_draft p_s p_images p_kept p_notes p_held p_soonest v_trace v_typed v_noted v_at v_sort v_start v_value v_vanillaIn u_2.2 f_told) H := hP
      have hD : va_D A (w_X5_minutes E p_this p_text p_told p_draft p_s p_images p_kept p_notes p_held p_soonest v_trace v_typed v_noted v_at v_sort v_start v_value v_vanillaIn u_2.2 f_told) := hD
      refine lv_iadd hx hb dX5_minutes_48 ?_
      refine lv_istore_n (lv' := [(2, .int (x2 + u_2.1)), (0, .ref p_this), (1, .int x1), (3, .int x3)]) hx hb dX5_minutes_49 rfl hl (by decide) rfl (fun ls hl => ?_)
      refine lv_iinc (v := (x3 + (1 : Int32))) (lv' := [(3, .int (x3 + (1 : Int32))), (2, .int (x2 + u_2.1)), (0, .ref p_this), (1, .int x1)]) hx hb dX5_minutes_50 hl (k := 3) rfl rfl (by decide) rfl (fun ls hl => ?_)
      refine lv_goto (tgt := 38) hx hb dX5_minutes_53 (by decide) ?_
      exact ih u_2.2 x1 (x2 + u_2.1) (x3 + (1 : Int32)) hf H locs ls (lv_sub hl [2, 3, 1, 0] rfl) hP hD hS

set_option maxHeartbeats 4000000 in
set_option maxRecDepth 100000 in
theorem m_X5_minutes {l : Launch} (E : Ev) (p_this : Nat) (p_text : Nat) (p_told : Nat) (p_draft : Nat) (p_s : Nat) (p_images : Nat) (p_kept : Nat) (p_notes : Nat) (p_held : Nat) (p_soonest : Nat) (v_trace : Int64) (v_typed : Int32) (v_noted : Int32) (v_at : Int32) (v_sort : Int32) (v_start : Int32) (v_value : Int32) (v_vanillaIn : Int32) (f_s : Nat → Int32) (f_told : Nat → Int32) (x1 : Int32) (res : Int32 × (Nat → Int32)) (hf : f_X5_minutes  f_told f_s x1 = some res) : MutI l E 4 yX5_minutes cX5_minutes 4 .int [.ref p_this, .int x1] (w_X5_minutes E p_this p_text p_told p_draft p_s p_images p_kept p_notes p_held p_soonest v_trace v_typed v_noted v_at v_sort v_start v_value v_vanillaIn f_s f_told) (w_X5_minutes E p_this p_text p_told p_draft p_s p_images p_kept p_notes p_held p_soonest v_trace v_typed v_noted v_at v_sort v_start v_value v_vanillaIn res.2 f_told) res.1 := by
  refine MutI.of (by decide) (Nat.le_of_ble_eq_true rfl) ?_
  intro p e s m args below meth c Q A X hK hA hret H locs ls hl hP hD hS
  obtain ⟨hx, hb, hml, hown, hts, hrt, hlk⟩ := id X
  have hl : lv_has ls 4 [(0, .ref p_this), (1, .int x1)] := hl
  unfold f_X5_minutes at hf
  refine lv_iload_n hx hb dX5_minutes_0 rfl (lv_at hl 1 rfl) ?_
  refine lv_iconst (v := (1 : Int32)) hx hb dX5_minutes_1 (by decide) ?_
  refine lv_bipush (v := (60 : Int32)) hx hb dX5_minutes_2 (by decide) ?_
  obtain ⟨u_1, hu_1, hf⟩ := ob hf
  refine pS X hK hA hP hS hl.1 (m_X5_in (l := l) E   x1 (1 : Int32) (60 : Int32) u_1 hu_1) kRX5_49 ⟨⟨(Nat.le_of_ble_eq_true rfl), (Nat.le_of_ble_eq_true rfl)⟩, Nat.zero_le _, Nat.zero_le _⟩ rfl rfl (Nat.le_of_ble_eq_true rfl) dX5_minutes_4 (fun H locs hP hS => ?_)
  refine lv_if_ne (tgt := 12) hx hb dX5_minutes_7 (by decide) (fun c_2 => ?_) (fun c_2 => ?_)
  · replace hf := of c_2 hf
    refine lv_aload_n hx hb dX5_minutes_12 rfl (lv_at hl 0 rfl) ?_
    refine gf_RX5_19 X hK hP 0 rfl rfl dX5_minutes_13 ?_
    refine lv_bipush (v := (13 : Int32)) hx hb dX5_minutes_16 (by decide) ?_
    refine iald X hK hP 1 rfl 13 (by decide) (by decide) dX5_minutes_18 ?_
    refine lv_iload_n hx hb dX5_minutes_19 rfl (lv_at hl 1 rfl) ?_
    refine lv_iadd hx hb dX5_minutes_20 ?_
    refine lv_sipush (v := (999 : Int32)) hx hb dX5_minutes_21 (by decide) ?_
    refine lv_icmp_le (tgt := 30) hx hb dX5_minutes_24 (by decide) (fun c_4 => ?_) (fun c_4 => ?_)
    · replace hf := ot c_4 hf
      refine lv_aload_n hx hb dX5_minutes_30 rfl (lv_at hl 0 rfl) ?_
      obtain ⟨u_5, hu_5, hf⟩ := ob hf
      refine mVv X hK hA hP hD hS hl.1 (m_X5_keeps (l := l) E p_this p_text p_told p_draft p_s p_images p_kept p_notes p_held p_soonest v_trace v_typed v_noted v_at v_sort v_start v_value v_vanillaIn f_s  u_5 hu_5) kRX5_123 [0, 1] rfl rfl (by simp only [w_X5_keeps, List.map]) rfl rfl rfl ⟨⟨(Nat.le_of_ble_eq_true rfl), (Nat.le_of_ble_eq_true rfl)⟩, Nat.zero_le _, Nat.zero_le _⟩ rfl rfl (Nat.le_of_ble_eq_true rfl) dX5_minutes_31 (fun H locs hP hD hS => ?_)
      have hP : va_P E.1 classes (w_X5_minutes E p_this p_text p_told p_draft p_s p_images p_kept p_notes p_held p_soonest v_trace v_typed v_noted v_at v_sort v_start v_value v_vanillaIn u_5 f_told) H := hP
      have hD : va_D A (w_X5_minutes E p_this p_text p_told p_draft p_s p_images p_kept p_notes p_held p_soonest v_trace v_typed v_noted v_at v_sort v_start v_value v_vanillaIn u_5 f_told) := hD
      refine lv_iconst (v := (0 : Int32)) hx hb dX5_minutes_34 (by decide) ?_
      refine lv_istore_n (lv' := [(2, .int (0 : Int32)), (0, .ref p_this), (1, .int x1)]) hx hb dX5_minutes_35 rfl hl (by decide) rfl (fun ls hl => ?_)
      refine lv_iconst (v := (0 : Int32)) hx hb dX5_minutes_36 (by decide) ?_
      refine lv_istore_n (lv' := [(3, .int (0 : Int32)), (2, .int (0 : Int32)), (0, .ref p_this), (1, .int x1)]) hx hb dX5_minutes_37 rfl hl (by decide) rfl (fun ls hl => ?_)
      exact b_X5_minutes_38 E p_this p_text p_told p_draft p_s p_images p_kept p_notes p_held p_soonest v_trace v_typed v_noted v_at v_sort v_start v_value v_vanillaIn f_told res X hK hA hret   FU u_5 x1 (0 : Int32) (0 : Int32) hf H locs ls (lv_sub hl [2, 3, 1, 0] rfl) hP hD hS
    · replace hf := of c_4 hf
      refine lv_bipush (v := (-2 : Int32)) hx hb dX5_minutes_27 (by decide) ?_
      obtain rfl := Option.some.inj hf
      exact hret H locs _ ls rfl hP hS dX5_minutes_29
  · replace hf := ot c_2 hf
    refine lv_iconst (v := (-1 : Int32)) hx hb dX5_minutes_10 (by decide) ?_
    obtain rfl := Option.some.inj hf
    exact hret H locs _ ls rfl hP hS dX5_minutes_11

abbrev w_X5_shuts (E : Ev) (p_this : Nat) (p_text : Nat) (p_told : Nat) (p_draft : Nat) (p_s : Nat) (p_images : Nat) (p_kept : Nat) (p_notes : Nat) (p_held : Nat) (p_soonest : Nat) (v_trace : Int64) (v_typed : Int32) (v_noted : Int32) (v_at : Int32) (v_sort : Int32) (v_start : Int32) (v_value : Int32) (v_vanillaIn : Int32) (f_told : Nat → Int32) (f_s : Nat → Int32) : va_W := [(p_this, .inr (5, [.long v_trace, .ref p_text, .int v_typed, .ref p_told, .ref p_draft, .ref p_s, .ref p_images, .ref p_kept, .ref p_notes, .int v_noted, .int v_at, .int v_sort, .int v_start, .int v_value, .int v_vanillaIn, .ref p_held, .ref p_soonest])), (p_told, .inl (E.2.1, 43, .inl f_told)), (p_s, .inl (E.2.1, 155, .inl f_s))]
set_option maxHeartbeats 4000000 in
set_option maxRecDepth 100000 in
theorem m_X5_shuts {l : Launch} (E : Ev) (p_this : Nat) (p_text : Nat) (p_told : Nat) (p_draft : Nat) (p_s : Nat) (p_images : Nat) (p_kept : Nat) (p_notes : Nat) (p_held : Nat) (p_soonest : Nat) (v_trace : Int64) (v_typed : Int32) (v_noted : Int32) (v_at : Int32) (v_sort : Int32) (v_start : Int32) (v_value : Int32) (v_vanillaIn : Int32) (f_told : Nat → Int32) (f_s : Nat → Int32) (x1 : Int32) (x2 : Int32) (res : Int32 × (Nat → Int32)) (hf : f_X5_shuts  f_told f_s x1 x2 = some res) : MutI l E 3 yX5_shuts cX5_shuts 3 .int [.ref p_this, .int x1, .int x2] (w_X5_shuts E p_this p_text p_told p_draft p_s p_images p_kept p_notes p_held p_soonest v_trace v_typed v_noted v_at v_sort v_start v_value v_vanillaIn f_told f_s) (w_X5_shuts E p_this p_text p_told p_draft p_s p_images p_kept p_notes p_held p_soonest v_trace v_typed v_noted v_at v_sort v_start v_value v_vanillaIn f_told res.2) res.1 := by
  refine MutI.of (by decide) (Nat.le_of_ble_eq_true rfl) ?_
  intro p e s m args below meth c Q A X hK hA hret H locs ls hl hP hD hS
  obtain ⟨hx, hb, hml, hown, hts, hrt, hlk⟩ := id X
  have hl : lv_has ls 3 [(0, .ref p_this), (1, .int x1), (2, .int x2)] := hl
  unfold f_X5_shuts at hf
  refine lv_aload_n hx hb dX5_shuts_0 rfl (lv_at hl 0 rfl) ?_
  refine lv_iload_n hx hb dX5_shuts_1 rfl (lv_at hl 1 rfl) ?_
  obtain ⟨u_1, hu_1, hf⟩ := ob hf
  refine pV X hK hA hP hS hl.1 (m_X5_isOven (l := l) E p_this p_text p_told p_draft p_s p_images p_kept p_notes p_held p_soonest v_trace v_typed v_noted v_at v_sort v_start v_value v_vanillaIn f_told x1 u_1 hu_1) kRX5_97 [0, 1] rfl rfl rfl rfl ⟨⟨(Nat.le_of_ble_eq_true rfl), (Nat.le_of_ble_eq_true rfl)⟩, Nat.zero_le _, Nat.zero_le _⟩ rfl rfl (Nat.le_of_ble_eq_true rfl) dX5_shuts_2 (fun H locs hP hS => ?_)
  refine lv_if_eq (tgt := 17) hx hb dX5_shuts_5 (by decide) (fun c_2 => ?_) (fun c_2 => ?_)
  · replace hf := ot c_2 hf
    refine lv_iconst (v := (-1 : Int32)) hx hb dX5_shuts_17 (by decide) ?_
    obtain rfl := Option.some.inj hf
    exact hret H locs _ ls rfl hP hS dX5_shuts_18
  · replace hf := of c_2 hf
    refine lv_iload_n hx hb dX5_shuts_8 rfl (lv_at hl 2 rfl) ?_
    refine lv_iconst (v := (0 : Int32)) hx hb dX5_shuts_9 (by decide) ?_
    refine lv_iconst (v := (1 : Int32)) hx hb dX5_shuts_10 (by decide) ?_
    obtain ⟨u_3, hu_3, hf⟩ := ob hf
    refine pS X hK hA hP hS hl.1 (m_X5_in (l := l) E   x2 (0 : Int32) (1 : Int32) u_3 hu_3) kRX5_49 ⟨⟨(Nat.le_of_ble_eq_true rfl), (Nat.le_of_ble_eq_true rfl)⟩, Nat.zero_le _, Nat.zero_le _⟩ rfl rfl (Nat.le_of_ble_eq_true rfl) dX5_shuts_11 (fun H locs hP hS => ?_)
    refine lv_if_ne (tgt := 19) hx hb dX5_shuts_14 (by decide) (fun c_4 => ?_) (fun c_4 => ?_)
    · replace hf := of c_4 hf
      refine lv_aload_n hx hb dX5_shuts_19 rfl (lv_at hl 0 rfl) ?_
      refine gf_RX5_19 X hK hP 0 rfl rfl dX5_shuts_20 ?_
      refine lv_bipush (v := (12 : Int32)) hx hb dX5_shuts_23 (by decide) ?_
      refine iald X hK hP 2 rfl 12 (by decide) (by decide) dX5_shuts_25 ?_
      refine lv_iload_n hx hb dX5_shuts_26 rfl (lv_at hl 1 rfl) ?_
      refine lv_ishr hx hb dX5_shuts_27 ?_
      refine lv_iconst (v := (1 : Int32)) hx hb dX5_shuts_28 (by decide) ?_
      refine lv_iand hx hb dX5_shuts_29 ?_
      refine lv_iload_n hx hb dX5_shuts_30 rfl (lv_at hl 2 rfl) ?_
      refine lv_icmp_ne (tgt := 37) hx hb dX5_shuts_31 (by decide) (fun c_6 => ?_) (fun c_6 => ?_)
      · replace hf := of c_6 hf
        refine lv_aload_n hx hb dX5_shuts_37 rfl (lv_at hl 0 rfl) ?_
        obtain ⟨u_7, hu_7, hf⟩ := ob hf
        refine mVv X hK hA hP hD hS hl.1 (m_X5_keeps (l := l) E p_this p_text p_told p_draft p_s p_images p_kept p_notes p_held p_soonest v_trace v_typed v_noted v_at v_sort v_start v_value v_vanillaIn f_s  u_7 hu_7) kRX5_123 [0, 2] rfl rfl (by simp only [w_X5_keeps, List.map]) rfl rfl rfl ⟨⟨(Nat.le_of_ble_eq_true rfl), (Nat.le_of_ble_eq_true rfl)⟩, Nat.zero_le _, Nat.zero_le _⟩ rfl rfl (Nat.le_of_ble_eq_true rfl) dX5_shuts_38 (fun H locs hP hD hS => ?_)
        have hP : va_P E.1 classes (w_X5_shuts E p_this p_text p_told p_draft p_s p_images p_kept p_notes p_held p_soonest v_trace v_typed v_noted v_at v_sort v_start v_value v_vanillaIn f_told u_7) H := hP
        have hD : va_D A (w_X5_shuts E p_this p_text p_told p_draft p_s p_images p_kept p_notes p_held p_soonest v_trace v_typed v_noted v_at v_sort v_start v_value v_vanillaIn f_told u_7) := hD
        refine lv_aload_n hx hb dX5_shuts_41 rfl (lv_at hl 0 rfl) ?_
        refine gf_RX5_19 X hK hP 0 rfl rfl dX5_shuts_42 ?_
        refine lv_bipush (v := (12 : Int32)) hx hb dX5_shuts_45 (by decide) ?_
        refine lv_dup2_11 hx hb dX5_shuts_47 rfl rfl ?_
        refine iald X hK hP 2 rfl 12 (by decide) (by decide) dX5_shuts_48 ?_
        refine lv_iconst (v := (1 : Int32)) hx hb dX5_shuts_49 (by decide) ?_
        refine lv_iload_n hx hb dX5_shuts_50 rfl (lv_at hl 1 rfl) ?_
        refine lv_ishl hx hb dX5_shuts_51 ?_
        refine lv_ixor hx hb dX5_shuts_52 ?_
        refine iast X hK hP hD hS 2 rfl 12 (by decide) (by decide) dX5_shuts_53 (fun H locs hP hD hS => ?_)
        have hP : va_P E.1 classes (w_X5_shuts E p_this p_text p_told p_draft p_s p_images p_kept p_notes p_held p_soonest v_trace v_typed v_noted v_at v_sort v_start v_value v_vanillaIn f_told (upd u_7 12 ((u_7 12) ^^^ ((1 : Int32) <<< (x1 &&& 31))))) H := hP
        have hD : va_D A (w_X5_shuts E p_this p_text p_told p_draft p_s p_images p_kept p_notes p_held p_soonest v_trace v_typed v_noted v_at v_sort v_start v_value v_vanillaIn f_told (upd u_7 12 ((u_7 12) ^^^ ((1 : Int32) <<< (x1 &&& 31))))) := hD
        refine lv_aload_n hx hb dX5_shuts_54 rfl (lv_at hl 0 rfl) ?_
        refine gf_RX5_19 X hK hP 0 rfl rfl dX5_shuts_55 ?_
        refine lv_bipush (v := (12 : Int32)) hx hb dX5_shuts_58 (by decide) ?_
        refine iald X hK hP 2 rfl 12 (by decide) (by decide) dX5_shuts_60 ?_
        obtain ⟨u_11, hu_11, hf⟩ := ob hf
        refine pS X hK hA hP hS hl.1 (m_X5_ones (l := l) E   ((upd u_7 12 ((u_7 12) ^^^ ((1 : Int32) <<< (x1 &&& 31)))) 12) u_11 hu_11) kRX5_94 ⟨⟨(Nat.le_of_ble_eq_true rfl), (Nat.le_of_ble_eq_true rfl)⟩, Nat.zero_le _, Nat.zero_le _⟩ rfl rfl (Nat.le_of_ble_eq_true rfl) dX5_shuts_61 (fun H locs hP hS => ?_)
        obtain rfl := Option.some.inj hf
        exact hret H locs _ ls rfl hP hS dX5_shuts_64
      · replace hf := ot c_6 hf
        refine lv_bipush (v := (-2 : Int32)) hx hb dX5_shuts_34 (by decide) ?_
        obtain rfl := Option.some.inj hf
        exact hret H locs _ ls rfl hP hS dX5_shuts_36
    · replace hf := ot c_4 hf
      refine lv_iconst (v := (-1 : Int32)) hx hb dX5_shuts_17 (by decide) ?_
      obtain rfl := Option.some.inj hf
      exact hret H locs _ ls rfl hP hS dX5_shuts_18

abbrev w_X5_undo (E : Ev) (p_this : Nat) (p_text : Nat) (p_told : Nat) (p_draft : Nat) (p_s : Nat) (p_images : Nat) (p_kept : Nat) (p_notes : Nat) (p_held : Nat) (p_soonest : Nat) (v_trace : Int64) (v_typed : Int32) (v_noted : Int32) (v_at : Int32) (v_sort : Int32) (v_start : Int32) (v_value : Int32) (v_vanillaIn : Int32) (f_s : Nat → Int32) : va_W := [(p_this, .inr (5, [.long v_trace, .ref p_text, .int v_typed, .ref p_told, .ref p_draft, .ref p_s, .ref p_images, .ref p_kept, .ref p_notes, .int v_noted, .int v_at, .int v_sort, .int v_start, .int v_value, .int v_vanillaIn, .ref p_held, .ref p_soonest])), (p_s, .inl (E.2.1, 155, .inl f_s))]
set_option maxHeartbeats 4000000 in
set_option maxRecDepth 100000 in
theorem b_X5_undo_40 {p : Program} {l : Launch} {e : Env} {s : State} {m : MethodId} {args : Array Value} {below : List Frame} {meth : Method} {c : Code} {Q : State → Prop} {A : Nat → Prop} (E : Ev) (p_this : Nat) (p_text : Nat) (p_told : Nat) (p_draft : Nat) (p_s : Nat) (p_images : Nat) (p_kept : Nat) (p_notes : Nat) (p_held : Nat) (p_soonest : Nat) (v_trace : Int64) (v_typed : Int32) (v_noted : Int32) (v_at : Int32) (v_sort : Int32) (v_start : Int32) (v_value : Int32) (v_vanillaIn : Int32) (res : Int32 × (Nat → Int32)) (X : Cx p s m args meth c cX5_undo 3 RX5 (some .int)) (hK : KK E A s s.heap) (hA : ∀ q, s.heap.size ≤ q → A q) (hret : RetI p l e (RM 1) s m args below meth c Q E A cX5_undo .int (w_X5_undo E p_this p_text p_told p_draft p_s p_images p_kept p_notes p_held p_soonest v_trace v_typed v_noted v_at v_sort v_start v_value v_vanillaIn res.2) res.1)  : ∀ (n : Nat) (f_s : Nat → Int32) (x1 : Int32) (x2 : Int32), f_X5_undo_40    n f_s x1 x2 = some res → ∀ (H : Heap) (locs : List Loc) (ls : Array Slot), lv_has ls 3 [(0, .ref p_this), (1, .int x1), (2, .int x2)] → va_P E.1 classes (w_X5_undo E p_this p_text p_told p_draft p_s p_images p_kept p_notes p_held p_soonest v_trace v_typed v_noted v_at v_sort v_start v_value v_vanillaIn f_s) H → va_D A (w_X5_undo E p_this p_text p_told p_draft p_s p_images p_kept p_notes p_held p_soonest v_trace v_typed v_noted v_at v_sort v_start v_value v_vanillaIn f_s) → va_S A s.heap H locs → W p l e (RM 1) s m args below meth c H locs 0 0 Q (F0 m 40 ls []) := by
  obtain ⟨hx, hb, hml, hown, hts, hrt, hlk⟩ := id X
  intro n
  induction n with
  | zero => intro f_s x1 x2 hf; exact absurd hf (by simp [f_X5_undo_40])
  | succ n ih =>
    intro f_s x1 x2 hf H locs ls hl hP hD hS
    unfold f_X5_undo_40 at hf
    refine lv_iload_n hx hb dX5_undo_40 rfl (lv_at hl 2 rfl) ?_
    refine lv_bipush (v := (14 : Int32)) hx hb dX5_undo_41 (by decide) ?_
    refine lv_icmp_ge (tgt := 66) hx hb dX5_undo_43 (by decide) (fun c_1 => ?_) (fun c_1 => ?_)
    · replace hf := ot c_1 hf
      refine lv_aload_n hx hb dX5_undo_66 rfl (lv_at hl 0 rfl) ?_
      refine gf_RX5_19 X hK hP 0 rfl rfl dX5_undo_67 ?_
      refine lv_bipush (v := (14 : Int32)) hx hb dX5_undo_70 (by decide) ?_
      refine iald X hK hP 1 rfl 14 (by decide) (by decide) dX5_undo_72 ?_
      obtain rfl := Option.some.inj hf
      exact hret H locs _ ls rfl hP hS dX5_undo_73
    · replace hf := of c_1 hf
      refine lv_aload_n hx hb dX5_undo_46 rfl (lv_at hl 0 rfl) ?_
      refine gf_RX5_19 X hK hP 0 rfl rfl dX5_undo_47 ?_
      refine lv_iload_n hx hb dX5_undo_50 rfl (lv_at hl 2 rfl) ?_
      refine lv_aload_n hx hb dX5_undo_51 rfl (lv_at hl 0 rfl) ?_
      refine gf_RX5_19 X hK hP 0 rfl rfl dX5_undo_52 ?_
      refine lv_iload_n hx hb dX5_undo_55 rfl (lv_at hl 1 rfl) ?_
      refine lv_iload_n hx hb dX5_undo_56 rfl (lv_at hl 2 rfl) ?_
      refine lv_iadd hx hb dX5_undo_57 ?_
      obtain ⟨g_3, hf⟩ := og hf
      refine iald X hK hP 1 rfl _ rfl g_3 dX5_undo_58 ?_
      obtain ⟨g_4, hf⟩ := og hf
      refine iast X hK hP hD hS 1 rfl _ rfl g_4 dX5_undo_59 (fun H locs hP hD hS => ?_)
      have hP : va_P E.1 classes (w_X5_undo E p_this p_text p_told p_draft p_s p_images p_kept p_notes p_held p_soonest v_trace v_typed v_noted v_at v_sort v_start v_value v_vanillaIn (upd f_s x2.toNatClampNeg (f_s (x1 + x2).toNatClampNeg))) H := hP
      have hD : va_D A (w_X5_undo E p_this p_text p_told p_draft p_s p_images p_kept p_notes p_held p_soonest v_trace v_typed v_noted v_at v_sort v_start v_value v_vanillaIn (upd f_s x2.toNatClampNeg (f_s (x1 + x2).toNatClampNeg))) := hD
      refine lv_iinc (v := (x2 + (1 : Int32))) (lv' := [(2, .int (x2 + (1 : Int32))), (0, .ref p_this), (1, .int x1)]) hx hb dX5_undo_60 hl (k := 2) rfl rfl (by decide) rfl (fun ls hl => ?_)
      refine lv_goto (tgt := 40) hx hb dX5_undo_63 (by decide) ?_
      exact ih (upd f_s x2.toNatClampNeg (f_s (x1 + x2).toNatClampNeg)) x1 (x2 + (1 : Int32)) hf H locs ls (lv_sub hl [1, 2, 0] rfl) hP hD hS

set_option maxHeartbeats 4000000 in
set_option maxRecDepth 100000 in
theorem m_X5_undo {l : Launch} (E : Ev) (p_this : Nat) (p_text : Nat) (p_told : Nat) (p_draft : Nat) (p_s : Nat) (p_images : Nat) (p_kept : Nat) (p_notes : Nat) (p_held : Nat) (p_soonest : Nat) (v_trace : Int64) (v_typed : Int32) (v_noted : Int32) (v_at : Int32) (v_sort : Int32) (v_start : Int32) (v_value : Int32) (v_vanillaIn : Int32) (f_s : Nat → Int32)  (res : Int32 × (Nat → Int32)) (hf : f_X5_undo  f_s  = some res) : MutI l E 1 yX5_undo cX5_undo 3 .int [.ref p_this] (w_X5_undo E p_this p_text p_told p_draft p_s p_images p_kept p_notes p_held p_soonest v_trace v_typed v_noted v_at v_sort v_start v_value v_vanillaIn f_s) (w_X5_undo E p_this p_text p_told p_draft p_s p_images p_kept p_notes p_held p_soonest v_trace v_typed v_noted v_at v_sort v_start v_value v_vanillaIn res.2) res.1 := by
  refine MutI.of (by decide) (Nat.le_of_ble_eq_true rfl) ?_
  intro p e s m args below meth c Q A X hK hA hret H locs ls hl hP hD hS
  obtain ⟨hx, hb, hml, hown, hts, hrt, hlk⟩ := id X
  have hl : lv_has ls 3 [(0, .ref p_this)] := hl
  unfold f_X5_undo at hf
  refine lv_aload_n hx hb dX5_undo_0 rfl (lv_at hl 0 rfl) ?_
  refine gf_RX5_19 X hK hP 0 rfl rfl dX5_undo_1 ?_
  refine lv_bipush (v := (14 : Int32)) hx hb dX5_undo_4 (by decide) ?_
  refine iald X hK hP 1 rfl 14 (by decide) (by decide) dX5_undo_6 ?_
  refine lv_if_ne (tgt := 13) hx hb dX5_undo_7 (by decide) (fun c_2 => ?_) (fun c_2 => ?_)
  · replace hf := of c_2 hf
    refine lv_aload_n hx hb dX5_undo_13 rfl (lv_at hl 0 rfl) ?_
    refine gf_RX5_19 X hK hP 0 rfl rfl dX5_undo_14 ?_
    refine lv_bipush (v := (14 : Int32)) hx hb dX5_undo_17 (by decide) ?_
    refine lv_dup2_11 hx hb dX5_undo_19 rfl rfl ?_
    refine iald X hK hP 1 rfl 14 (by decide) (by decide) dX5_undo_20 ?_
    refine lv_iconst (v := (1 : Int32)) hx hb dX5_undo_21 (by decide) ?_
    refine lv_isub hx hb dX5_undo_22 ?_
    refine iast X hK hP hD hS 1 rfl 14 (by decide) (by decide) dX5_undo_23 (fun H locs hP hD hS => ?_)
    have hP : va_P E.1 classes (w_X5_undo E p_this p_text p_told p_draft p_s p_images p_kept p_notes p_held p_soonest v_trace v_typed v_noted v_at v_sort v_start v_value v_vanillaIn (upd f_s 14 ((f_s 14) - (1 : Int32)))) H := hP
    have hD : va_D A (w_X5_undo E p_this p_text p_told p_draft p_s p_images p_kept p_notes p_held p_soonest v_trace v_typed v_noted v_at v_sort v_start v_value v_vanillaIn (upd f_s 14 ((f_s 14) - (1 : Int32)))) := hD
    refine lv_bipush (v := (15 : Int32)) hx hb dX5_undo_24 (by decide) ?_
    refine lv_bipush (v := (14 : Int32)) hx hb dX5_undo_26 (by decide) ?_
    refine lv_aload_n hx hb dX5_undo_28 rfl (lv_at hl 0 rfl) ?_
    refine gf_RX5_19 X hK hP 0 rfl rfl dX5_undo_29 ?_
    refine lv_bipush (v := (14 : Int32)) hx hb dX5_undo_32 (by decide) ?_
    refine iald X hK hP 1 rfl 14 (by decide) (by decide) dX5_undo_34 ?_
    refine lv_imul hx hb dX5_undo_35 ?_
    refine lv_iadd hx hb dX5_undo_36 ?_
    refine lv_istore_n (lv' := [(1, .int ((15 : Int32) + ((14 : Int32) * ((upd f_s 14 ((f_s 14) - (1 : Int32))) 14)))), (0, .ref p_this)]) hx hb dX5_undo_37 rfl hl (by decide) rfl (fun ls hl => ?_)
    refine lv_iconst (v := (0 : Int32)) hx hb dX5_undo_38 (by decide) ?_
    refine lv_istore_n (lv' := [(2, .int (0 : Int32)), (1, .int ((15 : Int32) + ((14 : Int32) * ((upd f_s 14 ((f_s 14) - (1 : Int32))) 14)))), (0, .ref p_this)]) hx hb dX5_undo_39 rfl hl (by decide) rfl (fun ls hl => ?_)
    exact b_X5_undo_40 E p_this p_text p_told p_draft p_s p_images p_kept p_notes p_held p_soonest v_trace v_typed v_noted v_at v_sort v_start v_value v_vanillaIn res X hK hA hret   FU (upd f_s 14 ((f_s 14) - (1 : Int32))) ((15 : Int32) + ((14 : Int32) * ((upd f_s 14 ((f_s 14) - (1 : Int32))) 14))) (0 : Int32) hf H locs ls (lv_sub hl [2, 1, 0] rfl) hP hD hS
  · replace hf := ot c_2 hf
    refine lv_bipush (v := (-2 : Int32)) hx hb dX5_undo_10 (by decide) ?_
    obtain rfl := Option.some.inj hf
    exact hret H locs _ ls rfl hP hS dX5_undo_12

abbrev w_X5_now (E : Ev) (p_this : Nat) (p_text : Nat) (p_told : Nat) (p_draft : Nat) (p_s : Nat) (p_images : Nat) (p_kept : Nat) (p_notes : Nat) (p_held : Nat) (p_soonest : Nat) (v_trace : Int64) (v_typed : Int32) (v_noted : Int32) (v_at : Int32) (v_sort : Int32) (v_start : Int32) (v_value : Int32) (v_vanillaIn : Int32) (f_told : Nat → Int32) (f_s : Nat → Int32) : va_W := [(p_this, .inr (5, [.long v_trace, .ref p_text, .int v_typed, .ref p_told, .ref p_draft, .ref p_s, .ref p_images, .ref p_kept, .ref p_notes, .int v_noted, .int v_at, .int v_sort, .int v_start, .int v_value, .int v_vanillaIn, .ref p_held, .ref p_soonest])), (p_told, .inl (E.2.1, 43, .inl f_told)), (p_s, .inl (E.2.1, 155, .inl f_s))]
set_option maxHeartbeats 4000000 in
set_option maxRecDepth 100000 in
theorem b_X5_now_49 {p : Program} {l : Launch} {e : Env} {s : State} {m : MethodId} {args : Array Value} {below : List Frame} {meth : Method} {c : Code} {Q : State → Prop} {A : Nat → Prop} (E : Ev) (p_this : Nat) (p_text : Nat) (p_told : Nat) (p_draft : Nat) (p_s : Nat) (p_images : Nat) (p_kept : Nat) (p_notes : Nat) (p_held : Nat) (p_soonest : Nat) (v_trace : Int64) (v_typed : Int32) (v_noted : Int32) (v_at : Int32) (v_sort : Int32) (v_start : Int32) (v_value : Int32) (v_vanillaIn : Int32) (f_told : Nat → Int32) (f_s : Nat → Int32) (res : Int32) (X : Cx p s m args meth c cX5_now 4 RX5 (some .int)) (hK : KK E A s s.heap) (hA : ∀ q, s.heap.size ≤ q → A q) (hret : RetI p l e (RM 2) s m args below meth c Q E A cX5_now .int (w_X5_now E p_this p_text p_told p_draft p_s p_images p_kept p_notes p_held p_soonest v_trace v_typed v_noted v_at v_sort v_start v_value v_vanillaIn f_told f_s) res) (K4 : Int32 → Int32 → Int32 → Option Int32) (hK4 : ∀ (x1 : Int32) (x2 : Int32) (x3 : Int32), K4 x1 x2 x3 = some res → ∀ (H : Heap) (locs : List Loc) (ls : Array Slot), lv_has ls 4 [(0, .ref p_this), (1, .int x1), (2, .int x2), (3, .int x3)] → va_P E.1 classes (w_X5_now E p_this p_text p_told p_draft p_s p_images p_kept p_notes p_held p_soonest v_trace v_typed v_noted v_at v_sort v_start v_value v_vanillaIn f_told f_s) H → va_S A s.heap H locs → W p l e (RM 2) s m args below meth c H locs 0 0 Q (F0 m 4 ls [])) (x1 : Int32) (x3 : Int32) (k0 : Int32) (k1 : Int32) (hf : f_X5_now_49 f_told f_s  K4 x1 x3 k0 k1 = some res) : ∀ (H : Heap) (locs : List Loc) (ls : Array Slot), lv_has ls 4 [(0, .ref p_this), (1, .int x1), (3, .int x3)] → va_P E.1 classes (w_X5_now E p_this p_text p_told p_draft p_s p_images p_kept p_notes p_held p_soonest v_trace v_typed v_noted v_at v_sort v_start v_value v_vanillaIn f_told f_s) H → va_S A s.heap H locs → W p l e (RM 2) s m args below meth c H locs 0 0 Q (F0 m 49 ls [.int k0, .int k1]) := by
  obtain ⟨hx, hb, hml, hown, hts, hrt, hlk⟩ := id X
  intro H locs ls hl hP hS
  unfold f_X5_now_49 at hf
  refine lv_ior hx hb dX5_now_49 ?_
  refine lv_istore_n (lv' := [(2, .int (k1 ||| k0)), (0, .ref p_this), (1, .int x1), (3, .int x3)]) hx hb dX5_now_50 rfl hl (by decide) rfl (fun ls hl => ?_)
  refine lv_iinc (v := (x3 + (1 : Int32))) (lv' := [(3, .int (x3 + (1 : Int32))), (2, .int (k1 ||| k0)), (0, .ref p_this), (1, .int x1)]) hx hb dX5_now_51 hl (k := 3) rfl rfl (by decide) rfl (fun ls hl => ?_)
  refine lv_goto (tgt := 4) hx hb dX5_now_54 (by decide) ?_
  exact hK4 x1 (k1 ||| k0) (x3 + (1 : Int32)) hf H locs ls (lv_sub hl [2, 3, 1, 0] rfl) hP hS

set_option maxHeartbeats 4000000 in
set_option maxRecDepth 100000 in
theorem b_X5_now_48 {p : Program} {l : Launch} {e : Env} {s : State} {m : MethodId} {args : Array Value} {below : List Frame} {meth : Method} {c : Code} {Q : State → Prop} {A : Nat → Prop} (E : Ev) (p_this : Nat) (p_text : Nat) (p_told : Nat) (p_draft : Nat) (p_s : Nat) (p_images : Nat) (p_kept : Nat) (p_notes : Nat) (p_held : Nat) (p_soonest : Nat) (v_trace : Int64) (v_typed : Int32) (v_noted : Int32) (v_at : Int32) (v_sort : Int32) (v_start : Int32) (v_value : Int32) (v_vanillaIn : Int32) (f_told : Nat → Int32) (f_s : Nat → Int32) (res : Int32) (X : Cx p s m args meth c cX5_now 4 RX5 (some .int)) (hK : KK E A s s.heap) (hA : ∀ q, s.heap.size ≤ q → A q) (hret : RetI p l e (RM 2) s m args below meth c Q E A cX5_now .int (w_X5_now E p_this p_text p_told p_draft p_s p_images p_kept p_notes p_held p_soonest v_trace v_typed v_noted v_at v_sort v_start v_value v_vanillaIn f_told f_s) res) (K4 : Int32 → Int32 → Int32 → Option Int32) (hK4 : ∀ (x1 : Int32) (x2 : Int32) (x3 : Int32), K4 x1 x2 x3 = some res → ∀ (H : Heap) (locs : List Loc) (ls : Array Slot), lv_has ls 4 [(0, .ref p_this), (1, .int x1), (2, .int x2), (3, .int x3)] → va_P E.1 classes (w_X5_now E p_this p_text p_told p_draft p_s p_images p_kept p_notes p_held p_soonest v_trace v_typed v_noted v_at v_sort v_start v_value v_vanillaIn f_told f_s) H → va_S A s.heap H locs → W p l e (RM 2) s m args below meth c H locs 0 0 Q (F0 m 4 ls [])) (x1 : Int32) (x3 : Int32) (k0 : Int32) (hf : f_X5_now_48 f_told f_s  K4 x1 x3 k0 = some res) : ∀ (H : Heap) (locs : List Loc) (ls : Array Slot), lv_has ls 4 [(0, .ref p_this), (1, .int x1), (3, .int x3)] → va_P E.1 classes (w_X5_now E p_this p_text p_told p_draft p_s p_images p_kept p_notes p_held p_soonest v_trace v_typed v_noted v_at v_sort v_start v_value v_vanillaIn f_told f_s) H → va_S A s.heap H locs → W p l e (RM 2) s m args below meth c H locs 0 0 Q (F0 m 48 ls [.int k0]) := by
  obtain ⟨hx, hb, hml, hown, hts, hrt, hlk⟩ := id X
  intro H locs ls hl hP hS
  unfold f_X5_now_48 at hf
  refine lv_iconst (v := (0 : Int32)) hx hb dX5_now_48 (by decide) ?_
  exact b_X5_now_49 E p_this p_text p_told p_draft p_s p_images p_kept p_notes p_held p_soonest v_trace v_typed v_noted v_at v_sort v_start v_value v_vanillaIn f_told f_s res X hK hA hret  K4 hK4 x1 x3 (0 : Int32) k0 hf H locs ls (lv_sub hl [0, 1, 2] rfl) hP hS

set_option maxHeartbeats 4000000 in
set_option maxRecDepth 100000 in
theorem b_X5_now_4 {p : Program} {l : Launch} {e : Env} {s : State} {m : MethodId} {args : Array Value} {below : List Frame} {meth : Method} {c : Code} {Q : State → Prop} {A : Nat → Prop} (E : Ev) (p_this : Nat) (p_text : Nat) (p_told : Nat) (p_draft : Nat) (p_s : Nat) (p_images : Nat) (p_kept : Nat) (p_notes : Nat) (p_held : Nat) (p_soonest : Nat) (v_trace : Int64) (v_typed : Int32) (v_noted : Int32) (v_at : Int32) (v_sort : Int32) (v_start : Int32) (v_value : Int32) (v_vanillaIn : Int32) (f_told : Nat → Int32) (f_s : Nat → Int32) (res : Int32) (X : Cx p s m args meth c cX5_now 4 RX5 (some .int)) (hK : KK E A s s.heap) (hA : ∀ q, s.heap.size ≤ q → A q) (hret : RetI p l e (RM 2) s m args below meth c Q E A cX5_now .int (w_X5_now E p_this p_text p_told p_draft p_s p_images p_kept p_notes p_held p_soonest v_trace v_typed v_noted v_at v_sort v_start v_value v_vanillaIn f_told f_s) res)  : ∀ (n : Nat) (x1 : Int32) (x2 : Int32) (x3 : Int32), f_X5_now_4 f_told f_s   n x1 x2 x3 = some res → ∀ (H : Heap) (locs : List Loc) (ls : Array Slot), lv_has ls 4 [(0, .ref p_this), (1, .int x1), (2, .int x2), (3, .int x3)] → va_P E.1 classes (w_X5_now E p_this p_text p_told p_draft p_s p_images p_kept p_notes p_held p_soonest v_trace v_typed v_noted v_at v_sort v_start v_value v_vanillaIn f_told f_s) H → va_S A s.heap H locs → W p l e (RM 2) s m args below meth c H locs 0 0 Q (F0 m 4 ls []) := by
  obtain ⟨hx, hb, hml, hown, hts, hrt, hlk⟩ := id X
  intro n
  induction n with
  | zero => intro x1 x2 x3 hf; exact absurd hf (by simp [f_X5_now_4])
  | succ n ih =>
    intro x1 x2 x3 hf H locs ls hl hP hS
    unfold f_X5_now_4 at hf
    refine lv_iload_n hx hb dX5_now_4 rfl (lv_at hl 3 rfl) ?_
    refine lv_aload_n hx hb dX5_now_5 rfl (lv_at hl 0 rfl) ?_
    refine gf_RX5_13 X hK hP 0 rfl rfl dX5_now_6 ?_
    refine lv_iconst (v := (1 : Int32)) hx hb dX5_now_9 (by decide) ?_
    refine iald X hK hP 1 rfl 1 (by decide) (by decide) dX5_now_10 ?_
    refine lv_icmp_ge (tgt := 57) hx hb dX5_now_11 (by decide) (fun c_2 => ?_) (fun c_2 => ?_)
    · replace hf := ot c_2 hf
      refine lv_iload_n hx hb dX5_now_57 rfl (lv_at hl 1 rfl) ?_
      by_cases c_3 : x1 = 0
      · replace hf := ot c_3 hf
        refine lv_tableIn (off := 34) (tgt := 92) hx hb dX5_now_58 (by rw [c_3]; decide) (by rw [c_3]; decide) (by rw [c_3]; rfl) (by decide) ?_
        refine lv_aload_n hx hb dX5_now_92 rfl (lv_at hl 0 rfl) ?_
        refine gf_RX5_19 X hK hP 0 rfl rfl dX5_now_93 ?_
        refine lv_bipush (v := (13 : Int32)) hx hb dX5_now_96 (by decide) ?_
        refine iald X hK hP 2 rfl 13 (by decide) (by decide) dX5_now_98 ?_
        obtain rfl := Option.some.inj hf
        exact hret H locs _ ls rfl hP hS dX5_now_99
      · replace hf := of c_3 hf
        by_cases c_5 : x1 = 1
        · replace hf := ot c_5 hf
          refine lv_tableIn (off := 42) (tgt := 100) hx hb dX5_now_58 (by rw [c_5]; decide) (by rw [c_5]; decide) (by rw [c_5]; rfl) (by decide) ?_
          refine lv_aload_n hx hb dX5_now_100 rfl (lv_at hl 0 rfl) ?_
          refine lv_bipush (v := (-9 : Int32)) hx hb dX5_now_101 (by decide) ?_
          obtain ⟨u_6, hu_6, hf⟩ := ob hf
          refine pV X hK hA hP hS hl.1 (m_X5_whereAll (l := l) E p_this p_text p_told p_draft p_s p_images p_kept p_notes p_held p_soonest v_trace v_typed v_noted v_at v_sort v_start v_value v_vanillaIn f_told f_s (-9 : Int32) u_6 hu_6) kRX5_91 [0, 1, 2] rfl rfl rfl rfl ⟨⟨(Nat.le_of_ble_eq_true rfl), (Nat.le_of_ble_eq_true rfl)⟩, Nat.zero_le _, Nat.zero_le _⟩ rfl rfl (Nat.le_of_ble_eq_true rfl) dX5_now_103 (fun H locs hP hS => ?_)
          obtain rfl := Option.some.inj hf
          exact hret H locs _ ls rfl hP hS dX5_now_106
        · replace hf := of c_5 hf
          by_cases c_7 : x1 = 2
          · replace hf := ot c_7 hf
            refine lv_tableIn (off := 49) (tgt := 107) hx hb dX5_now_58 (by rw [c_7]; decide) (by rw [c_7]; decide) (by rw [c_7]; rfl) (by decide) ?_
            refine lv_aload_n hx hb dX5_now_107 rfl (lv_at hl 0 rfl) ?_
            refine lv_bipush (v := (-5 : Int32)) hx hb dX5_now_108 (by decide) ?_
            obtain ⟨u_8, hu_8, hf⟩ := ob hf
            refine pV X hK hA hP hS hl.1 (m_X5_whereAll (l := l) E p_this p_text p_told p_draft p_s p_images p_kept p_notes p_held p_soonest v_trace v_typed v_noted v_at v_sort v_start v_value v_vanillaIn f_told f_s (-5 : Int32) u_8 hu_8) kRX5_91 [0, 1, 2] rfl rfl rfl rfl ⟨⟨(Nat.le_of_ble_eq_true rfl), (Nat.le_of_ble_eq_true rfl)⟩, Nat.zero_le _, Nat.zero_le _⟩ rfl rfl (Nat.le_of_ble_eq_true rfl) dX5_now_110 (fun H locs hP hS => ?_)
            obtain rfl := Option.some.inj hf
            exact hret H locs _ ls rfl hP hS dX5_now_113
          · replace hf := of c_7 hf
            by_cases c_9 : x1 = 3
            · replace hf := ot c_9 hf
              refine lv_tableIn (off := 56) (tgt := 114) hx hb dX5_now_58 (by rw [c_9]; decide) (by rw [c_9]; decide) (by rw [c_9]; rfl) (by decide) ?_
              refine lv_iload_n hx hb dX5_now_114 rfl (lv_at hl 2 rfl) ?_
              obtain rfl := Option.some.inj hf
              exact hret H locs _ ls rfl hP hS dX5_now_115
            · replace hf := of c_9 hf
              by_cases c_10 : x1 = 4
              · replace hf := ot c_10 hf
                refine lv_tableIn (off := 58) (tgt := 116) hx hb dX5_now_58 (by rw [c_10]; decide) (by rw [c_10]; decide) (by rw [c_10]; rfl) (by decide) ?_
                refine lv_aload_n hx hb dX5_now_116 rfl (lv_at hl 0 rfl) ?_
                refine gf_RX5_19 X hK hP 0 rfl rfl dX5_now_117 ?_
                refine lv_bipush (v := (12 : Int32)) hx hb dX5_now_120 (by decide) ?_
                refine iald X hK hP 2 rfl 12 (by decide) (by decide) dX5_now_122 ?_
                obtain rfl := Option.some.inj hf
                exact hret H locs _ ls rfl hP hS dX5_now_123
              · replace hf := of c_10 hf
                refine lv_tableOut (tgt := 124) hx hb dX5_now_58 (by
                    have e_3 := lv_neT c_3 (show (0 : Int32).toInt = 0 by decide)
                    have e_5 := lv_neT c_5 (show (1 : Int32).toInt = 1 by decide)
                    have e_7 := lv_neT c_7 (show (2 : Int32).toInt = 2 by decide)
                    have e_9 := lv_neT c_9 (show (3 : Int32).toInt = 3 by decide)
                    have e_10 := lv_neT c_10 (show (4 : Int32).toInt = 4 by decide)
                    omega) (by decide) ?_
                refine lv_iconst (v := (-1 : Int32)) hx hb dX5_now_124 (by decide) ?_
                obtain rfl := Option.some.inj hf
                exact hret H locs _ ls rfl hP hS dX5_now_125
    · replace hf := of c_2 hf
      refine lv_iload_n hx hb dX5_now_14 rfl (lv_at hl 2 rfl) ?_
      refine lv_aload_n hx hb dX5_now_15 rfl (lv_at hl 0 rfl) ?_
      refine lv_iload_n hx hb dX5_now_16 rfl (lv_at hl 3 rfl) ?_
      obtain ⟨u_12, hu_12, hf⟩ := ob hf
      refine pV X hK hA hP hS hl.1 (m_X5_isOut (l := l) E p_this p_text p_told p_draft p_s p_images p_kept p_notes p_held p_soonest v_trace v_typed v_noted v_at v_sort v_start v_value v_vanillaIn f_s x3 u_12 hu_12) kRX5_114 [0, 2] rfl rfl rfl rfl ⟨⟨(Nat.le_of_ble_eq_true rfl), (Nat.le_of_ble_eq_true rfl)⟩, Nat.zero_le _, Nat.zero_le _⟩ rfl rfl (Nat.le_of_ble_eq_true rfl) dX5_now_17 (fun H locs hP hS => ?_)
      refine lv_if_eq (tgt := 48) hx hb dX5_now_20 (by decide) (fun c_13 => ?_) (fun c_13 => ?_)
      · replace hf := ot c_13 hf
        exact b_X5_now_48 E p_this p_text p_told p_draft p_s p_images p_kept p_notes p_held p_soonest v_trace v_typed v_noted v_at v_sort v_start v_value v_vanillaIn f_told f_s res X hK hA hret  (f_X5_now_4 f_told f_s   n) ih x1 x3 x2 hf H locs ls (lv_sub hl [0, 1, 3] rfl) hP hS
      · replace hf := of c_13 hf
        refine lv_aload_n hx hb dX5_now_23 rfl (lv_at hl 0 rfl) ?_
        refine gf_RX5_19 X hK hP 0 rfl rfl dX5_now_24 ?_
        refine lv_bipush (v := (13 : Int32)) hx hb dX5_now_27 (by decide) ?_
        refine iald X hK hP 2 rfl 13 (by decide) (by decide) dX5_now_29 ?_
        refine lv_aload_n hx hb dX5_now_30 rfl (lv_at hl 0 rfl) ?_
        refine gf_RX5_13 X hK hP 0 rfl rfl dX5_now_31 ?_
        refine lv_bipush (v := (37 : Int32)) hx hb dX5_now_34 (by decide) ?_
        refine lv_iload_n hx hb dX5_now_36 rfl (lv_at hl 3 rfl) ?_
        refine lv_iadd hx hb dX5_now_37 ?_
        obtain ⟨g_15, hf⟩ := og hf
        refine iald X hK hP 1 rfl _ rfl g_15 dX5_now_38 ?_
        refine lv_icmp_le (tgt := 48) hx hb dX5_now_39 (by decide) (fun c_16 => ?_) (fun c_16 => ?_)
        · replace hf := ot c_16 hf
          exact b_X5_now_48 E p_this p_text p_told p_draft p_s p_images p_kept p_notes p_held p_soonest v_trace v_typed v_noted v_at v_sort v_start v_value v_vanillaIn f_told f_s res X hK hA hret  (f_X5_now_4 f_told f_s   n) ih x1 x3 x2 hf H locs ls (lv_sub hl [0, 1, 3] rfl) hP hS
        · replace hf := of c_16 hf
          refine lv_iconst (v := (1 : Int32)) hx hb dX5_now_42 (by decide) ?_
          refine lv_iload_n hx hb dX5_now_43 rfl (lv_at hl 3 rfl) ?_
          refine lv_ishl hx hb dX5_now_44 ?_
          refine lv_goto (tgt := 49) hx hb dX5_now_45 (by decide) ?_
          exact b_X5_now_49 E p_this p_text p_told p_draft p_s p_images p_kept p_notes p_held p_soonest v_trace v_typed v_noted v_at v_sort v_start v_value v_vanillaIn f_told f_s res X hK hA hret  (f_X5_now_4 f_told f_s   n) ih x1 x3 ((1 : Int32) <<< (x3 &&& 31)) x2 hf H locs ls (lv_sub hl [0, 1, 3] rfl) hP hS

set_option maxHeartbeats 4000000 in
set_option maxRecDepth 100000 in
theorem m_X5_now {l : Launch} (E : Ev) (p_this : Nat) (p_text : Nat) (p_told : Nat) (p_draft : Nat) (p_s : Nat) (p_images : Nat) (p_kept : Nat) (p_notes : Nat) (p_held : Nat) (p_soonest : Nat) (v_trace : Int64) (v_typed : Int32) (v_noted : Int32) (v_at : Int32) (v_sort : Int32) (v_start : Int32) (v_value : Int32) (v_vanillaIn : Int32) (f_told : Nat → Int32) (f_s : Nat → Int32) (x1 : Int32) (res : Int32) (hf : f_X5_now  f_told f_s x1 = some res) : PureI l E 2 yX5_now cX5_now 4 .int [.ref p_this, .int x1] (w_X5_now E p_this p_text p_told p_draft p_s p_images p_kept p_notes p_held p_soonest v_trace v_typed v_noted v_at v_sort v_start v_value v_vanillaIn f_told f_s) res := by
  refine PureI.of (by decide) (Nat.le_of_ble_eq_true rfl) ?_
  intro p e s m args below meth c Q A X hK hA hret H locs ls hl hP hS
  obtain ⟨hx, hb, hml, hown, hts, hrt, hlk⟩ := id X
  have hl : lv_has ls 4 [(0, .ref p_this), (1, .int x1)] := hl
  unfold f_X5_now at hf
  refine lv_iconst (v := (0 : Int32)) hx hb dX5_now_0 (by decide) ?_
  refine lv_istore_n (lv' := [(2, .int (0 : Int32)), (0, .ref p_this), (1, .int x1)]) hx hb dX5_now_1 rfl hl (by decide) rfl (fun ls hl => ?_)
  refine lv_iconst (v := (0 : Int32)) hx hb dX5_now_2 (by decide) ?_
  refine lv_istore_n (lv' := [(3, .int (0 : Int32)), (2, .int (0 : Int32)), (0, .ref p_this), (1, .int x1)]) hx hb dX5_now_3 rfl hl (by decide) rfl (fun ls hl => ?_)
  exact b_X5_now_4 E p_this p_text p_told p_draft p_s p_images p_kept p_notes p_held p_soonest v_trace v_typed v_noted v_at v_sort v_start v_value v_vanillaIn f_told f_s res X hK hA hret   FU x1 (0 : Int32) (0 : Int32) hf H locs ls (lv_sub hl [2, 3, 1, 0] rfl) hP hS

abbrev w_X5_holds (E : Ev) (p_this : Nat) (p_text : Nat) (p_told : Nat) (p_draft : Nat) (p_s : Nat) (p_images : Nat) (p_kept : Nat) (p_notes : Nat) (p_held : Nat) (p_soonest : Nat) (v_trace : Int64) (v_typed : Int32) (v_noted : Int32) (v_at : Int32) (v_sort : Int32) (v_start : Int32) (v_value : Int32) (v_vanillaIn : Int32) (f_s : Nat → Int32) (f_held : Nat → Int32) : va_W := [(p_this, .inr (5, [.long v_trace, .ref p_text, .int v_typed, .ref p_told, .ref p_draft, .ref p_s, .ref p_images, .ref p_kept, .ref p_notes, .int v_noted, .int v_at, .int v_sort, .int v_start, .int v_value, .int v_vanillaIn, .ref p_held, .ref p_soonest])), (p_s, .inl (E.2.1, 155, .inl f_s)), (p_held, .inl (E.2.1, 14, .inl f_held))]
set_option maxHeartbeats 4000000 in
set_option maxRecDepth 100000 in
theorem b_X5_holds_2 {p : Program} {l : Launch} {e : Env} {s : State} {m : MethodId} {args : Array Value} {below : List Frame} {meth : Method} {c : Code} {Q : State → Prop} {A : Nat → Prop} (E : Ev) (p_this : Nat) (p_text : Nat) (p_told : Nat) (p_draft : Nat) (p_s : Nat) (p_images : Nat) (p_kept : Nat) (p_notes : Nat) (p_held : Nat) (p_soonest : Nat) (v_trace : Int64) (v_typed : Int32) (v_noted : Int32) (v_at : Int32) (v_sort : Int32) (v_start : Int32) (v_value : Int32) (v_vanillaIn : Int32) (f_s : Nat → Int32) (res : (Nat → Int32)) (X : Cx p s m args meth c cX5_holds 2 RX5 none) (hK : KK E A s s.heap) (hA : ∀ q, s.heap.size ≤ q → A q) (hret : RetV p l e (RM 1) s m args below meth c Q E A cX5_holds (w_X5_holds E p_this p_text p_told p_draft p_s p_images p_kept p_notes p_held p_soonest v_trace v_typed v_noted v_at v_sort v_start v_value v_vanillaIn f_s res))  : ∀ (n : Nat) (f_held : Nat → Int32) (x1 : Int32), f_X5_holds_2 f_s   n f_held x1 = some res → ∀ (H : Heap) (locs : List Loc) (ls : Array Slot), lv_has ls 2 [(0, .ref p_this), (1, .int x1)] → va_P E.1 classes (w_X5_holds E p_this p_text p_told p_draft p_s p_images p_kept p_notes p_held p_soonest v_trace v_typed v_noted v_at v_sort v_start v_value v_vanillaIn f_s f_held) H → va_D A (w_X5_holds E p_this p_text p_told p_draft p_s p_images p_kept p_notes p_held p_soonest v_trace v_typed v_noted v_at v_sort v_start v_value v_vanillaIn f_s f_held) → va_S A s.heap H locs → W p l e (RM 1) s m args below meth c H locs 0 0 Q (F0 m 2 ls []) := by
  obtain ⟨hx, hb, hml, hown, hts, hrt, hlk⟩ := id X
  intro n
  induction n with
  | zero => intro f_held x1 hf; exact absurd hf (by simp [f_X5_holds_2])
  | succ n ih =>
    intro f_held x1 hf H locs ls hl hP hD hS
    unfold f_X5_holds_2 at hf
    refine lv_iload_n hx hb dX5_holds_2 rfl (lv_at hl 1 rfl) ?_
    refine lv_bipush (v := (14 : Int32)) hx hb dX5_holds_3 (by decide) ?_
    refine lv_icmp_ge (tgt := 26) hx hb dX5_holds_5 (by decide) (fun c_1 => ?_) (fun c_1 => ?_)
    · replace hf := ot c_1 hf
      obtain rfl := Option.some.inj hf
      exact hret H locs _ ls hP hS dX5_holds_26
    · replace hf := of c_1 hf
      refine lv_aload_n hx hb dX5_holds_8 rfl (lv_at hl 0 rfl) ?_
      refine gf_RX5_36 X hK hP 0 rfl rfl dX5_holds_9 ?_
      refine lv_iload_n hx hb dX5_holds_12 rfl (lv_at hl 1 rfl) ?_
      refine lv_aload_n hx hb dX5_holds_13 rfl (lv_at hl 0 rfl) ?_
      refine gf_RX5_19 X hK hP 0 rfl rfl dX5_holds_14 ?_
      refine lv_iload_n hx hb dX5_holds_17 rfl (lv_at hl 1 rfl) ?_
      obtain ⟨g_2, hf⟩ := og hf
      refine iald X hK hP 1 rfl _ rfl g_2 dX5_holds_18 ?_
      obtain ⟨g_3, hf⟩ := og hf
      refine iast X hK hP hD hS 2 rfl _ rfl g_3 dX5_holds_19 (fun H locs hP hD hS => ?_)
      have hP : va_P E.1 classes (w_X5_holds E p_this p_text p_told p_draft p_s p_images p_kept p_notes p_held p_soonest v_trace v_typed v_noted v_at v_sort v_start v_value v_vanillaIn f_s (upd f_held x1.toNatClampNeg (f_s x1.toNatClampNeg))) H := hP
      have hD : va_D A (w_X5_holds E p_this p_text p_told p_draft p_s p_images p_kept p_notes p_held p_soonest v_trace v_typed v_noted v_at v_sort v_start v_value v_vanillaIn f_s (upd f_held x1.toNatClampNeg (f_s x1.toNatClampNeg))) := hD
      refine lv_iinc (v := (x1 + (1 : Int32))) (lv' := [(1, .int (x1 + (1 : Int32))), (0, .ref p_this)]) hx hb dX5_holds_20 hl (k := 1) rfl rfl (by decide) rfl (fun ls hl => ?_)
      refine lv_goto (tgt := 2) hx hb dX5_holds_23 (by decide) ?_
      exact ih (upd f_held x1.toNatClampNeg (f_s x1.toNatClampNeg)) (x1 + (1 : Int32)) hf H locs ls (lv_sub hl [1, 0] rfl) hP hD hS

set_option maxHeartbeats 4000000 in
set_option maxRecDepth 100000 in
theorem m_X5_holds {l : Launch} (E : Ev) (p_this : Nat) (p_text : Nat) (p_told : Nat) (p_draft : Nat) (p_s : Nat) (p_images : Nat) (p_kept : Nat) (p_notes : Nat) (p_held : Nat) (p_soonest : Nat) (v_trace : Int64) (v_typed : Int32) (v_noted : Int32) (v_at : Int32) (v_sort : Int32) (v_start : Int32) (v_value : Int32) (v_vanillaIn : Int32) (f_s : Nat → Int32) (f_held : Nat → Int32)  (res : (Nat → Int32)) (hf : f_X5_holds  f_s f_held  = some res) : MutV l E 1 yX5_holds cX5_holds 2 [.ref p_this] (w_X5_holds E p_this p_text p_told p_draft p_s p_images p_kept p_notes p_held p_soonest v_trace v_typed v_noted v_at v_sort v_start v_value v_vanillaIn f_s f_held) (w_X5_holds E p_this p_text p_told p_draft p_s p_images p_kept p_notes p_held p_soonest v_trace v_typed v_noted v_at v_sort v_start v_value v_vanillaIn f_s res) := by
  refine MutV.of (by decide) (Nat.le_of_ble_eq_true rfl) ?_
  intro p e s m args below meth c Q A X hK hA hret H locs ls hl hP hD hS
  obtain ⟨hx, hb, hml, hown, hts, hrt, hlk⟩ := id X
  have hl : lv_has ls 2 [(0, .ref p_this)] := hl
  unfold f_X5_holds at hf
  refine lv_iconst (v := (0 : Int32)) hx hb dX5_holds_0 (by decide) ?_
  refine lv_istore_n (lv' := [(1, .int (0 : Int32)), (0, .ref p_this)]) hx hb dX5_holds_1 rfl hl (by decide) rfl (fun ls hl => ?_)
  exact b_X5_holds_2 E p_this p_text p_told p_draft p_s p_images p_kept p_notes p_held p_soonest v_trace v_typed v_noted v_at v_sort v_start v_value v_vanillaIn f_s res X hK hA hret   FU f_held (0 : Int32) hf H locs ls (lv_sub hl [1, 0] rfl) hP hD hS

abbrev w_X5_lets (E : Ev) (p_this : Nat) (p_text : Nat) (p_told : Nat) (p_draft : Nat) (p_s : Nat) (p_images : Nat) (p_kept : Nat) (p_notes : Nat) (p_held : Nat) (p_soonest : Nat) (v_trace : Int64) (v_typed : Int32) (v_noted : Int32) (v_at : Int32) (v_sort : Int32) (v_start : Int32) (v_value : Int32) (v_vanillaIn : Int32) (f_held : Nat → Int32) (f_s : Nat → Int32) : va_W := [(p_this, .inr (5, [.long v_trace, .ref p_text, .int v_typed, .ref p_told, .ref p_draft, .ref p_s, .ref p_images, .ref p_kept, .ref p_notes, .int v_noted, .int v_at, .int v_sort, .int v_start, .int v_value, .int v_vanillaIn, .ref p_held, .ref p_soonest])), (p_held, .inl (E.2.1, 14, .inl f_held)), (p_s, .inl (E.2.1, 155, .inl f_s))]
set_option maxHeartbeats 4000000 in
set_option maxRecDepth 100000 in
theorem b_X5_lets_2 {p : Program} {l : Launch} {e : Env} {s : State} {m : MethodId} {args : Array Value} {below : List Frame} {meth : Method} {c : Code} {Q : State → Prop} {A : Nat → Prop} (E : Ev) (p_this : Nat) (p_text : Nat) (p_told : Nat) (p_draft : Nat) (p_s : Nat) (p_images : Nat) (p_kept : Nat) (p_notes : Nat) (p_held : Nat) (p_soonest : Nat) (v_trace : Int64) (v_typed : Int32) (v_noted : Int32) (v_at : Int32) (v_sort : Int32) (v_start : Int32) (v_value : Int32) (v_vanillaIn : Int32) (f_held : Nat → Int32) (res : (Nat → Int32)) (X : Cx p s m args meth c cX5_lets 2 RX5 none) (hK : KK E A s s.heap) (hA : ∀ q, s.heap.size ≤ q → A q) (hret : RetV p l e (RM 1) s m args below meth c Q E A cX5_lets (w_X5_lets E p_this p_text p_told p_draft p_s p_images p_kept p_notes p_held p_soonest v_trace v_typed v_noted v_at v_sort v_start v_value v_vanillaIn f_held res))  : ∀ (n : Nat) (f_s : Nat → Int32) (x1 : Int32), f_X5_lets_2 f_held   n f_s x1 = some res → ∀ (H : Heap) (locs : List Loc) (ls : Array Slot), lv_has ls 2 [(0, .ref p_this), (1, .int x1)] → va_P E.1 classes (w_X5_lets E p_this p_text p_told p_draft p_s p_images p_kept p_notes p_held p_soonest v_trace v_typed v_noted v_at v_sort v_start v_value v_vanillaIn f_held f_s) H → va_D A (w_X5_lets E p_this p_text p_told p_draft p_s p_images p_kept p_notes p_held p_soonest v_trace v_typed v_noted v_at v_sort v_start v_value v_vanillaIn f_held f_s) → va_S A s.heap H locs → W p l e (RM 1) s m args below meth c H locs 0 0 Q (F0 m 2 ls []) := by
  obtain ⟨hx, hb, hml, hown, hts, hrt, hlk⟩ := id X
  intro n
  induction n with
  | zero => intro f_s x1 hf; exact absurd hf (by simp [f_X5_lets_2])
  | succ n ih =>
    intro f_s x1 hf H locs ls hl hP hD hS
    unfold f_X5_lets_2 at hf
    refine lv_iload_n hx hb dX5_lets_2 rfl (lv_at hl 1 rfl) ?_
    refine lv_bipush (v := (14 : Int32)) hx hb dX5_lets_3 (by decide) ?_
    refine lv_icmp_ge (tgt := 26) hx hb dX5_lets_5 (by decide) (fun c_1 => ?_) (fun c_1 => ?_)
    · replace hf := ot c_1 hf
      obtain rfl := Option.some.inj hf
      exact hret H locs _ ls hP hS dX5_lets_26
    · replace hf := of c_1 hf
      refine lv_aload_n hx hb dX5_lets_8 rfl (lv_at hl 0 rfl) ?_
      refine gf_RX5_19 X hK hP 0 rfl rfl dX5_lets_9 ?_
      refine lv_iload_n hx hb dX5_lets_12 rfl (lv_at hl 1 rfl) ?_
      refine lv_aload_n hx hb dX5_lets_13 rfl (lv_at hl 0 rfl) ?_
      refine gf_RX5_36 X hK hP 0 rfl rfl dX5_lets_14 ?_
      refine lv_iload_n hx hb dX5_lets_17 rfl (lv_at hl 1 rfl) ?_
      obtain ⟨g_2, hf⟩ := og hf
      refine iald X hK hP 1 rfl _ rfl g_2 dX5_lets_18 ?_
      obtain ⟨g_3, hf⟩ := og hf
      refine iast X hK hP hD hS 2 rfl _ rfl g_3 dX5_lets_19 (fun H locs hP hD hS => ?_)
      have hP : va_P E.1 classes (w_X5_lets E p_this p_text p_told p_draft p_s p_images p_kept p_notes p_held p_soonest v_trace v_typed v_noted v_at v_sort v_start v_value v_vanillaIn f_held (upd f_s x1.toNatClampNeg (f_held x1.toNatClampNeg))) H := hP
      have hD : va_D A (w_X5_lets E p_this p_text p_told p_draft p_s p_images p_kept p_notes p_held p_soonest v_trace v_typed v_noted v_at v_sort v_start v_value v_vanillaIn f_held (upd f_s x1.toNatClampNeg (f_held x1.toNatClampNeg))) := hD
      refine lv_iinc (v := (x1 + (1 : Int32))) (lv' := [(1, .int (x1 + (1 : Int32))), (0, .ref p_this)]) hx hb dX5_lets_20 hl (k := 1) rfl rfl (by decide) rfl (fun ls hl => ?_)
      refine lv_goto (tgt := 2) hx hb dX5_lets_23 (by decide) ?_
      exact ih (upd f_s x1.toNatClampNeg (f_held x1.toNatClampNeg)) (x1 + (1 : Int32)) hf H locs ls (lv_sub hl [1, 0] rfl) hP hD hS

set_option maxHeartbeats 4000000 in
set_option maxRecDepth 100000 in
theorem m_X5_lets {l : Launch} (E : Ev) (p_this : Nat) (p_text : Nat) (p_told : Nat) (p_draft : Nat) (p_s : Nat) (p_images : Nat) (p_kept : Nat) (p_notes : Nat) (p_held : Nat) (p_soonest : Nat) (v_trace : Int64) (v_typed : Int32) (v_noted : Int32) (v_at : Int32) (v_sort : Int32) (v_start : Int32) (v_value : Int32) (v_vanillaIn : Int32) (f_held : Nat → Int32) (f_s : Nat → Int32)  (res : (Nat → Int32)) (hf : f_X5_lets  f_held f_s  = some res) : MutV l E 1 yX5_lets cX5_lets 2 [.ref p_this] (w_X5_lets E p_this p_text p_told p_draft p_s p_images p_kept p_notes p_held p_soonest v_trace v_typed v_noted v_at v_sort v_start v_value v_vanillaIn f_held f_s) (w_X5_lets E p_this p_text p_told p_draft p_s p_images p_kept p_notes p_held p_soonest v_trace v_typed v_noted v_at v_sort v_start v_value v_vanillaIn f_held res) := by
  refine MutV.of (by decide) (Nat.le_of_ble_eq_true rfl) ?_
  intro p e s m args below meth c Q A X hK hA hret H locs ls hl hP hD hS
  obtain ⟨hx, hb, hml, hown, hts, hrt, hlk⟩ := id X
  have hl : lv_has ls 2 [(0, .ref p_this)] := hl
  unfold f_X5_lets at hf
  refine lv_iconst (v := (0 : Int32)) hx hb dX5_lets_0 (by decide) ?_
  refine lv_istore_n (lv' := [(1, .int (0 : Int32)), (0, .ref p_this)]) hx hb dX5_lets_1 rfl hl (by decide) rfl (fun ls hl => ?_)
  exact b_X5_lets_2 E p_this p_text p_told p_draft p_s p_images p_kept p_notes p_held p_soonest v_trace v_typed v_noted v_at v_sort v_start v_value v_vanillaIn f_held res X hK hA hret   FU f_s (0 : Int32) hf H locs ls (lv_sub hl [1, 0] rfl) hP hD hS

abbrev w_X5_when (E : Ev) (p_this : Nat) (p_text : Nat) (p_told : Nat) (p_draft : Nat) (p_s : Nat) (p_images : Nat) (p_kept : Nat) (p_notes : Nat) (p_held : Nat) (p_soonest : Nat) (v_trace : Int64) (v_typed : Int32) (v_noted : Int32) (v_at : Int32) (v_sort : Int32) (v_start : Int32) (v_value : Int32) (v_vanillaIn : Int32) (f_told : Nat → Int32) (f_s : Nat → Int32) (f_held : Nat → Int32) : va_W := [(p_this, .inr (5, [.long v_trace, .ref p_text, .int v_typed, .ref p_told, .ref p_draft, .ref p_s, .ref p_images, .ref p_kept, .ref p_notes, .int v_noted, .int v_at, .int v_sort, .int v_start, .int v_value, .int v_vanillaIn, .ref p_held, .ref p_soonest])), (p_told, .inl (E.2.1, 43, .inl f_told)), (p_s, .inl (E.2.1, 155, .inl f_s)), (p_held, .inl (E.2.1, 14, .inl f_held))]
set_option maxHeartbeats 4000000 in
set_option maxRecDepth 100000 in
theorem b_X5_when_79 {p : Program} {l : Launch} {e : Env} {s : State} {m : MethodId} {args : Array Value} {below : List Frame} {meth : Method} {c : Code} {Q : State → Prop} {A : Nat → Prop} (E : Ev) (p_this : Nat) (p_text : Nat) (p_told : Nat) (p_draft : Nat) (p_s : Nat) (p_images : Nat) (p_kept : Nat) (p_notes : Nat) (p_held : Nat) (p_soonest : Nat) (v_trace : Int64) (v_typed : Int32) (v_noted : Int32) (v_at : Int32) (v_sort : Int32) (v_start : Int32) (v_value : Int32) (v_vanillaIn : Int32) (f_told : Nat → Int32) (res : Int32 × (Nat → Int32) × (Nat → Int32)) (X : Cx p s m args meth c cX5_when 4 RX5 (some .int)) (hK : KK E A s s.heap) (hA : ∀ q, s.heap.size ≤ q → A q) (hret : RetI p l e (RM 4) s m args below meth c Q E A cX5_when .int (w_X5_when E p_this p_text p_told p_draft p_s p_images p_kept p_notes p_held p_soonest v_trace v_typed v_noted v_at v_sort v_start v_value v_vanillaIn f_told res.2.1 res.2.2) res.1)  (f_s : Nat → Int32) (f_held : Nat → Int32) (x2 : Int32) (hf : f_X5_when_79 f_told   f_s f_held x2 = some res) : ∀ (H : Heap) (locs : List Loc) (ls : Array Slot), lv_has ls 4 [(0, .ref p_this), (2, .int x2)] → va_P E.1 classes (w_X5_when E p_this p_text p_told p_draft p_s p_images p_kept p_notes p_held p_soonest v_trace v_typed v_noted v_at v_sort v_start v_value v_vanillaIn f_told f_s f_held) H → va_D A (w_X5_when E p_this p_text p_told p_draft p_s p_images p_kept p_notes p_held p_soonest v_trace v_typed v_noted v_at v_sort v_start v_value v_vanillaIn f_told f_s f_held) → va_S A s.heap H locs → W p l e (RM 4) s m args below meth c H locs 0 0 Q (F0 m 79 ls []) := by
  obtain ⟨hx, hb, hml, hown, hts, hrt, hlk⟩ := id X
  intro H locs ls hl hP hD hS
  unfold f_X5_when_79 at hf
  refine lv_aload_n hx hb dX5_when_79 rfl (lv_at hl 0 rfl) ?_
  obtain ⟨u_1, hu_1, hf⟩ := ob hf
  refine mVv X hK hA hP hD hS hl.1 (m_X5_lets (l := l) E p_this p_text p_told p_draft p_s p_images p_kept p_notes p_held p_soonest v_trace v_typed v_noted v_at v_sort v_start v_value v_vanillaIn f_held f_s  u_1 hu_1) kRX5_133 [0, 3, 2] rfl rfl (by simp only [w_X5_lets, List.map]) rfl rfl rfl ⟨⟨(Nat.le_of_ble_eq_true rfl), (Nat.le_of_ble_eq_true rfl)⟩, Nat.zero_le _, Nat.zero_le _⟩ rfl rfl (Nat.le_of_ble_eq_true rfl) dX5_when_80 (fun H locs hP hD hS => ?_)
  have hP : va_P E.1 classes (w_X5_when E p_this p_text p_told p_draft p_s p_images p_kept p_notes p_held p_soonest v_trace v_typed v_noted v_at v_sort v_start v_value v_vanillaIn f_told u_1 f_held) H := hP
  have hD : va_D A (w_X5_when E p_this p_text p_told p_draft p_s p_images p_kept p_notes p_held p_soonest v_trace v_typed v_noted v_at v_sort v_start v_value v_vanillaIn f_told u_1 f_held) := hD
  refine lv_iload_n hx hb dX5_when_83 rfl (lv_at hl 1 rfl) ?_
  obtain rfl := Option.some.inj hf
  exact hret H locs _ ls rfl hP hS dX5_when_84

set_option maxHeartbeats 4000000 in
set_option maxRecDepth 100000 in
theorem b_X5_when_72 {p : Program} {l : Launch} {e : Env} {s : State} {m : MethodId} {args : Array Value} {below : List Frame} {meth : Method} {c : Code} {Q : State → Prop} {A : Nat → Prop} (E : Ev) (p_this : Nat) (p_text : Nat) (p_told : Nat) (p_draft : Nat) (p_s : Nat) (p_images : Nat) (p_kept : Nat) (p_notes : Nat) (p_held : Nat) (p_soonest : Nat) (v_trace : Int64) (v_typed : Int32) (v_noted : Int32) (v_at : Int32) (v_sort : Int32) (v_start : Int32) (v_value : Int32) (v_vanillaIn : Int32) (f_told : Nat → Int32) (res : Int32 × (Nat → Int32) × (Nat → Int32)) (X : Cx p s m args meth c cX5_when 4 RX5 (some .int)) (hK : KK E A s s.heap) (hA : ∀ q, s.heap.size ≤ q → A q) (hret : RetI p l e (RM 4) s m args below meth c Q E A cX5_when .int (w_X5_when E p_this p_text p_told p_draft p_s p_images p_kept p_notes p_held p_soonest v_trace v_typed v_noted v_at v_sort v_start v_value v_vanillaIn f_told res.2.1 res.2.2) res.1) (K31 : (Nat → Int32) → (Nat → Int32) → Int32 → Int32 → Int32 → Option (Int32 × (Nat → Int32) × (Nat → Int32))) (hK31 : ∀ (f_s : Nat → Int32) (f_held : Nat → Int32) (x1 : Int32) (x2 : Int32) (x3 : Int32), K31 f_s f_held x1 x2 x3 = some res → ∀ (H : Heap) (locs : List Loc) (ls : Array Slot), lv_has ls 4 [(0, .ref p_this), (1, .int x1), (2, .int x2), (3, .int x3)] → va_P E.1 classes (w_X5_when E p_this p_text p_told p_draft p_s p_images p_kept p_notes p_held p_soonest v_trace v_typed v_noted v_at v_sort v_start v_value v_vanillaIn f_told f_s f_held) H → va_D A (w_X5_when E p_this p_text p_told p_draft p_s p_images p_kept p_notes p_held p_soonest v_trace v_typed v_noted v_at v_sort v_start v_value v_vanillaIn f_told f_s f_held) → va_S A s.heap H locs → W p l e (RM 4) s m args below meth c H locs 0 0 Q (F0 m 31 ls [])) (f_s : Nat → Int32) (f_held : Nat → Int32) (x1 : Int32) (x3 : Int32) (k0 : Int32) (hf : f_X5_when_72 f_told  K31 f_s f_held x1 x3 k0 = some res) : ∀ (H : Heap) (locs : List Loc) (ls : Array Slot), lv_has ls 4 [(0, .ref p_this), (1, .int x1), (3, .int x3)] → va_P E.1 classes (w_X5_when E p_this p_text p_told p_draft p_s p_images p_kept p_notes p_held p_soonest v_trace v_typed v_noted v_at v_sort v_start v_value v_vanillaIn f_told f_s f_held) H → va_D A (w_X5_when E p_this p_text p_told p_draft p_s p_images p_kept p_notes p_held p_soonest v_trace v_typed v_noted v_at v_sort v_start v_value v_vanillaIn f_told f_s f_held) → va_S A s.heap H locs → W p l e (RM 4) s m args below meth c H locs 0 0 Q (F0 m 72 ls [.int k0]) := by
  obtain ⟨hx, hb, hml, hown, hts, hrt, hlk⟩ := id X
  intro H locs ls hl hP hD hS
  unfold f_X5_when_72 at hf
  refine lv_istore_n (lv' := [(2, .int k0), (0, .ref p_this), (1, .int x1), (3, .int x3)]) hx hb dX5_when_72 rfl hl (by decide) rfl (fun ls hl => ?_)
  refine lv_iinc (v := (x3 + (1 : Int32))) (lv' := [(3, .int (x3 + (1 : Int32))), (2, .int k0), (0, .ref p_this), (1, .int x1)]) hx hb dX5_when_73 hl (k := 3) rfl rfl (by decide) rfl (fun ls hl => ?_)
  refine lv_goto (tgt := 31) hx hb dX5_when_76 (by decide) ?_
  exact hK31 f_s f_held x1 k0 (x3 + (1 : Int32)) hf H locs ls (lv_sub hl [2, 3, 1, 0] rfl) hP hD hS

set_option maxHeartbeats 4000000 in
set_option maxRecDepth 100000 in
theorem b_X5_when_31 {p : Program} {l : Launch} {e : Env} {s : State} {m : MethodId} {args : Array Value} {below : List Frame} {meth : Method} {c : Code} {Q : State → Prop} {A : Nat → Prop} (E : Ev) (p_this : Nat) (p_text : Nat) (p_told : Nat) (p_draft : Nat) (p_s : Nat) (p_images : Nat) (p_kept : Nat) (p_notes : Nat) (p_held : Nat) (p_soonest : Nat) (v_trace : Int64) (v_typed : Int32) (v_noted : Int32) (v_at : Int32) (v_sort : Int32) (v_start : Int32) (v_value : Int32) (v_vanillaIn : Int32) (f_told : Nat → Int32) (res : Int32 × (Nat → Int32) × (Nat → Int32)) (X : Cx p s m args meth c cX5_when 4 RX5 (some .int)) (hK : KK E A s s.heap) (hA : ∀ q, s.heap.size ≤ q → A q) (hret : RetI p l e (RM 4) s m args below meth c Q E A cX5_when .int (w_X5_when E p_this p_text p_told p_draft p_s p_images p_kept p_notes p_held p_soonest v_trace v_typed v_noted v_at v_sort v_start v_value v_vanillaIn f_told res.2.1 res.2.2) res.1)  : ∀ (n : Nat) (f_s : Nat → Int32) (f_held : Nat → Int32) (x1 : Int32) (x2 : Int32) (x3 : Int32), f_X5_when_31 f_told   n f_s f_held x1 x2 x3 = some res → ∀ (H : Heap) (locs : List Loc) (ls : Array Slot), lv_has ls 4 [(0, .ref p_this), (1, .int x1), (2, .int x2), (3, .int x3)] → va_P E.1 classes (w_X5_when E p_this p_text p_told p_draft p_s p_images p_kept p_notes p_held p_soonest v_trace v_typed v_noted v_at v_sort v_start v_value v_vanillaIn f_told f_s f_held) H → va_D A (w_X5_when E p_this p_text p_told p_draft p_s p_images p_kept p_notes p_held p_soonest v_trace v_typed v_noted v_at v_sort v_start v_value v_vanillaIn f_told f_s f_held) → va_S A s.heap H locs → W p l e (RM 4) s m args below meth c H locs 0 0 Q (F0 m 31 ls []) := by
  obtain ⟨hx, hb, hml, hown, hts, hrt, hlk⟩ := id X
  intro n
  induction n with
  | zero => intro f_s f_held x1 x2 x3 hf; exact absurd hf (by simp [f_X5_when_31])
  | succ n ih =>
    intro f_s f_held x1 x2 x3 hf H locs ls hl hP hD hS
    unfold f_X5_when_31 at hf
    refine lv_iload_n hx hb dX5_when_31 rfl (lv_at hl 3 rfl) ?_
    refine lv_sipush (v := (200 : Int32)) hx hb dX5_when_32 (by decide) ?_
    refine lv_icmp_ge (tgt := 79) hx hb dX5_when_35 (by decide) (fun c_1 => ?_) (fun c_1 => ?_)
    · replace hf := ot c_1 hf
      exact b_X5_when_79 E p_this p_text p_told p_draft p_s p_images p_kept p_notes p_held p_soonest v_trace v_typed v_noted v_at v_sort v_start v_value v_vanillaIn f_told res X hK hA hret   f_s f_held x2 hf H locs ls (lv_sub hl [0, 2] rfl) hP hD hS
    · replace hf := of c_1 hf
      refine lv_iload_n hx hb dX5_when_38 rfl (lv_at hl 2 rfl) ?_
      refine lv_bipush (v := (-9 : Int32)) hx hb dX5_when_39 (by decide) ?_
      refine lv_icmp_ne (tgt := 79) hx hb dX5_when_41 (by decide) (fun c_2 => ?_) (fun c_2 => ?_)
      · replace hf := of c_2 hf
        exact b_X5_when_79 E p_this p_text p_told p_draft p_s p_images p_kept p_notes p_held p_soonest v_trace v_typed v_noted v_at v_sort v_start v_value v_vanillaIn f_told res X hK hA hret   f_s f_held x2 hf H locs ls (lv_sub hl [0, 2] rfl) hP hD hS
      · replace hf := ot c_2 hf
        refine lv_aload_n hx hb dX5_when_44 rfl (lv_at hl 0 rfl) ?_
        obtain ⟨u_3, hu_3, hf⟩ := ob hf
        refine mV X hK hA hP hD hS hl.1 (m_X5_passes (l := l) E p_this p_text p_told p_draft p_s p_images p_kept p_notes p_held p_soonest v_trace v_typed v_noted v_at v_sort v_start v_value v_vanillaIn f_told f_s  u_3 hu_3) kRX5_126 [0, 1, 2] rfl rfl (by simp only [w_X5_passes, List.map]) rfl rfl rfl ⟨⟨(Nat.le_of_ble_eq_true rfl), (Nat.le_of_ble_eq_true rfl)⟩, Nat.zero_le _, Nat.zero_le _⟩ rfl rfl (Nat.le_of_ble_eq_true rfl) dX5_when_45 (fun H locs hP hD hS => ?_)
        have hP : va_P E.1 classes (w_X5_when E p_this p_text p_told p_draft p_s p_images p_kept p_notes p_held p_soonest v_trace v_typed v_noted v_at v_sort v_start v_value v_vanillaIn f_told u_3.2 f_held) H := hP
        have hD : va_D A (w_X5_when E p_this p_text p_told p_draft p_s p_images p_kept p_notes p_held p_soonest v_trace v_typed v_noted v_at v_sort v_start v_value v_vanillaIn f_told u_3.2 f_held) := hD
        refine lv_pop hx hb dX5_when_48 rfl ?_
        refine lv_aload_n hx hb dX5_when_49 rfl (lv_at hl 0 rfl) ?_
        refine gf_RX5_19 X hK hP 0 rfl rfl dX5_when_50 ?_
        refine lv_iload_n hx hb dX5_when_53 rfl (lv_at hl 1 rfl) ?_
        obtain ⟨g_4, hf⟩ := og hf
        refine iald X hK hP 2 rfl _ rfl g_4 dX5_when_54 ?_
        refine lv_bipush (v := (-5 : Int32)) hx hb dX5_when_55 (by decide) ?_
        refine lv_icmp_ne (tgt := 70) hx hb dX5_when_57 (by decide) (fun c_5 => ?_) (fun c_5 => ?_)
        · replace hf := of c_5 hf
          refine lv_bipush (v := (-9 : Int32)) hx hb dX5_when_70 (by decide) ?_
          exact b_X5_when_72 E p_this p_text p_told p_draft p_s p_images p_kept p_notes p_held p_soonest v_trace v_typed v_noted v_at v_sort v_start v_value v_vanillaIn f_told res X hK hA hret  (f_X5_when_31 f_told   n) ih u_3.2 f_held x1 x3 (-9 : Int32) hf H locs ls (lv_sub hl [0, 1, 3] rfl) hP hD hS
        · replace hf := ot c_5 hf
          refine lv_aload_n hx hb dX5_when_60 rfl (lv_at hl 0 rfl) ?_
          refine gf_RX5_19 X hK hP 0 rfl rfl dX5_when_61 ?_
          refine lv_bipush (v := (13 : Int32)) hx hb dX5_when_64 (by decide) ?_
          refine iald X hK hP 2 rfl 13 (by decide) (by decide) dX5_when_66 ?_
          refine lv_goto (tgt := 72) hx hb dX5_when_67 (by decide) ?_
          exact b_X5_when_72 E p_this p_text p_told p_draft p_s p_images p_kept p_notes p_held p_soonest v_trace v_typed v_noted v_at v_sort v_start v_value v_vanillaIn f_told res X hK hA hret  (f_X5_when_31 f_told   n) ih u_3.2 f_held x1 x3 (u_3.2 13) hf H locs ls (lv_sub hl [0, 1, 3] rfl) hP hD hS

set_option maxHeartbeats 4000000 in
set_option maxRecDepth 100000 in
theorem m_X5_when {l : Launch} (E : Ev) (p_this : Nat) (p_text : Nat) (p_told : Nat) (p_draft : Nat) (p_s : Nat) (p_images : Nat) (p_kept : Nat) (p_notes : Nat) (p_held : Nat) (p_soonest : Nat) (v_trace : Int64) (v_typed : Int32) (v_noted : Int32) (v_at : Int32) (v_sort : Int32) (v_start : Int32) (v_value : Int32) (v_vanillaIn : Int32) (f_told : Nat → Int32) (f_s : Nat → Int32) (f_held : Nat → Int32) (x1 : Int32) (res : Int32 × (Nat → Int32) × (Nat → Int32)) (hf : f_X5_when  f_told f_s f_held x1 = some res) : MutI l E 4 yX5_when cX5_when 4 .int [.ref p_this, .int x1] (w_X5_when E p_this p_text p_told p_draft p_s p_images p_kept p_notes p_held p_soonest v_trace v_typed v_noted v_at v_sort v_start v_value v_vanillaIn f_told f_s f_held) (w_X5_when E p_this p_text p_told p_draft p_s p_images p_kept p_notes p_held p_soonest v_trace v_typed v_noted v_at v_sort v_start v_value v_vanillaIn f_told res.2.1 res.2.2) res.1 := by
  refine MutI.of (by decide) (Nat.le_of_ble_eq_true rfl) ?_
  intro p e s m args below meth c Q A X hK hA hret H locs ls hl hP hD hS
  obtain ⟨hx, hb, hml, hown, hts, hrt, hlk⟩ := id X
  have hl : lv_has ls 4 [(0, .ref p_this), (1, .int x1)] := hl
  unfold f_X5_when at hf
  refine lv_aload_n hx hb dX5_when_0 rfl (lv_at hl 0 rfl) ?_
  refine lv_iload_n hx hb dX5_when_1 rfl (lv_at hl 1 rfl) ?_
  obtain ⟨u_1, hu_1, hf⟩ := ob hf
  refine pV X hK hA hP hS hl.1 (m_X5_isDough (l := l) E p_this p_text p_told p_draft p_s p_images p_kept p_notes p_held p_soonest v_trace v_typed v_noted v_at v_sort v_start v_value v_vanillaIn f_told x1 u_1 hu_1) kRX5_111 [0, 1] rfl rfl rfl rfl ⟨⟨(Nat.le_of_ble_eq_true rfl), (Nat.le_of_ble_eq_true rfl)⟩, Nat.zero_le _, Nat.zero_le _⟩ rfl rfl (Nat.le_of_ble_eq_true rfl) dX5_when_2 (fun H locs hP hS => ?_)
  refine lv_if_ne (tgt := 10) hx hb dX5_when_5 (by decide) (fun c_2 => ?_) (fun c_2 => ?_)
  · replace hf := of c_2 hf
    refine lv_aload_n hx hb dX5_when_10 rfl (lv_at hl 0 rfl) ?_
    refine gf_RX5_19 X hK hP 0 rfl rfl dX5_when_11 ?_
    refine lv_iload_n hx hb dX5_when_14 rfl (lv_at hl 1 rfl) ?_
    obtain ⟨g_3, hf⟩ := og hf
    refine iald X hK hP 2 rfl _ rfl g_3 dX5_when_15 ?_
    refine lv_if_ge (tgt := 22) hx hb dX5_when_16 (by decide) (fun c_4 => ?_) (fun c_4 => ?_)
    · replace hf := ot c_4 hf
      refine lv_aload_n hx hb dX5_when_22 rfl (lv_at hl 0 rfl) ?_
      obtain ⟨u_5, hu_5, hf⟩ := ob hf
      refine mVv X hK hA hP hD hS hl.1 (m_X5_holds (l := l) E p_this p_text p_told p_draft p_s p_images p_kept p_notes p_held p_soonest v_trace v_typed v_noted v_at v_sort v_start v_value v_vanillaIn f_s f_held  u_5 hu_5) kRX5_130 [0, 2, 3] rfl rfl (by simp only [w_X5_holds, List.map]) rfl rfl rfl ⟨⟨(Nat.le_of_ble_eq_true rfl), (Nat.le_of_ble_eq_true rfl)⟩, Nat.zero_le _, Nat.zero_le _⟩ rfl rfl (Nat.le_of_ble_eq_true rfl) dX5_when_23 (fun H locs hP hD hS => ?_)
      have hP : va_P E.1 classes (w_X5_when E p_this p_text p_told p_draft p_s p_images p_kept p_notes p_held p_soonest v_trace v_typed v_noted v_at v_sort v_start v_value v_vanillaIn f_told f_s u_5) H := hP
      have hD : va_D A (w_X5_when E p_this p_text p_told p_draft p_s p_images p_kept p_notes p_held p_soonest v_trace v_typed v_noted v_at v_sort v_start v_value v_vanillaIn f_told f_s u_5) := hD
      refine lv_bipush (v := (-9 : Int32)) hx hb dX5_when_26 (by decide) ?_
      refine lv_istore_n (lv' := [(2, .int (-9 : Int32)), (0, .ref p_this), (1, .int x1)]) hx hb dX5_when_28 rfl hl (by decide) rfl (fun ls hl => ?_)
      refine lv_iconst (v := (0 : Int32)) hx hb dX5_when_29 (by decide) ?_
      refine lv_istore_n (lv' := [(3, .int (0 : Int32)), (2, .int (-9 : Int32)), (0, .ref p_this), (1, .int x1)]) hx hb dX5_when_30 rfl hl (by decide) rfl (fun ls hl => ?_)
      exact b_X5_when_31 E p_this p_text p_told p_draft p_s p_images p_kept p_notes p_held p_soonest v_trace v_typed v_noted v_at v_sort v_start v_value v_vanillaIn f_told res X hK hA hret   FU f_s u_5 x1 (-9 : Int32) (0 : Int32) hf H locs ls (lv_sub hl [2, 3, 1, 0] rfl) hP hD hS
    · replace hf := of c_4 hf
      refine lv_bipush (v := (-2 : Int32)) hx hb dX5_when_19 (by decide) ?_
      obtain rfl := Option.some.inj hf
      exact hret H locs _ ls rfl hP hS dX5_when_21
  · replace hf := ot c_2 hf
    refine lv_iconst (v := (-1 : Int32)) hx hb dX5_when_8 (by decide) ?_
    obtain rfl := Option.some.inj hf
    exact hret H locs _ ls rfl hP hS dX5_when_9

abbrev w_X5_moved (E : Ev) (p_this : Nat) (p_text : Nat) (p_told : Nat) (p_draft : Nat) (p_s : Nat) (p_images : Nat) (p_kept : Nat) (p_notes : Nat) (p_held : Nat) (p_soonest : Nat) (v_trace : Int64) (v_typed : Int32) (v_noted : Int32) (v_at : Int32) (v_sort : Int32) (v_start : Int32) (v_value : Int32) (v_vanillaIn : Int32) (f_told : Nat → Int32) (f_s : Nat → Int32) : va_W := [(p_this, .inr (5, [.long v_trace, .ref p_text, .int v_typed, .ref p_told, .ref p_draft, .ref p_s, .ref p_images, .ref p_kept, .ref p_notes, .int v_noted, .int v_at, .int v_sort, .int v_start, .int v_value, .int v_vanillaIn, .ref p_held, .ref p_soonest])), (p_told, .inl (E.2.1, 43, .inl f_told)), (p_s, .inl (E.2.1, 155, .inl f_s))]
set_option maxHeartbeats 4000000 in
set_option maxRecDepth 100000 in
theorem b_X5_moved_82 {p : Program} {l : Launch} {e : Env} {s : State} {m : MethodId} {args : Array Value} {below : List Frame} {meth : Method} {c : Code} {Q : State → Prop} {A : Nat → Prop} (E : Ev) (p_this : Nat) (p_text : Nat) (p_told : Nat) (p_draft : Nat) (p_s : Nat) (p_images : Nat) (p_kept : Nat) (p_notes : Nat) (p_held : Nat) (p_soonest : Nat) (v_trace : Int64) (v_typed : Int32) (v_noted : Int32) (v_at : Int32) (v_sort : Int32) (v_start : Int32) (v_value : Int32) (v_vanillaIn : Int32) (f_told : Nat → Int32) (f_s : Nat → Int32) (res : Int32) (X : Cx p s m args meth c cX5_moved 4 RX5 (some .int)) (hK : KK E A s s.heap) (hA : ∀ q, s.heap.size ≤ q → A q) (hret : RetI p l e (RM 3) s m args below meth c Q E A cX5_moved .int (w_X5_moved E p_this p_text p_told p_draft p_s p_images p_kept p_notes p_held p_soonest v_trace v_typed v_noted v_at v_sort v_start v_value v_vanillaIn f_told f_s) res) (K25 : Int32 → Int32 → Int32 → Option Int32) (hK25 : ∀ (x1 : Int32) (x2 : Int32) (x3 : Int32), K25 x1 x2 x3 = some res → ∀ (H : Heap) (locs : List Loc) (ls : Array Slot), lv_has ls 4 [(0, .ref p_this), (1, .int x1), (2, .int x2), (3, .int x3)] → va_P E.1 classes (w_X5_moved E p_this p_text p_told p_draft p_s p_images p_kept p_notes p_held p_soonest v_trace v_typed v_noted v_at v_sort v_start v_value v_vanillaIn f_told f_s) H → va_S A s.heap H locs → W p l e (RM 3) s m args below meth c H locs 0 0 Q (F0 m 25 ls [])) (x1 : Int32) (x3 : Int32) (k0 : Int32) (k1 : Int32) (hf : f_X5_moved_82 v_vanillaIn f_told f_s  K25 x1 x3 k0 k1 = some res) : ∀ (H : Heap) (locs : List Loc) (ls : Array Slot), lv_has ls 4 [(0, .ref p_this), (1, .int x1), (3, .int x3)] → va_P E.1 classes (w_X5_moved E p_this p_text p_told p_draft p_s p_images p_kept p_notes p_held p_soonest v_trace v_typed v_noted v_at v_sort v_start v_value v_vanillaIn f_told f_s) H → va_S A s.heap H locs → W p l e (RM 3) s m args below meth c H locs 0 0 Q (F0 m 82 ls [.int k0, .int k1]) := by
  obtain ⟨hx, hb, hml, hown, hts, hrt, hlk⟩ := id X
  intro H locs ls hl hP hS
  unfold f_X5_moved_82 at hf
  refine lv_ior hx hb dX5_moved_82 ?_
  refine lv_istore_n (lv' := [(2, .int (k1 ||| k0)), (0, .ref p_this), (1, .int x1), (3, .int x3)]) hx hb dX5_moved_83 rfl hl (by decide) rfl (fun ls hl => ?_)
  refine lv_iinc (v := (x3 + (1 : Int32))) (lv' := [(3, .int (x3 + (1 : Int32))), (2, .int (k1 ||| k0)), (0, .ref p_this), (1, .int x1)]) hx hb dX5_moved_84 hl (k := 3) rfl rfl (by decide) rfl (fun ls hl => ?_)
  refine lv_goto (tgt := 25) hx hb dX5_moved_87 (by decide) ?_
  exact hK25 x1 (k1 ||| k0) (x3 + (1 : Int32)) hf H locs ls (lv_sub hl [2, 3, 1, 0] rfl) hP hS

set_option maxHeartbeats 4000000 in
set_option maxRecDepth 100000 in
theorem b_X5_moved_81 {p : Program} {l : Launch} {e : Env} {s : State} {m : MethodId} {args : Array Value} {below : List Frame} {meth : Method} {c : Code} {Q : State → Prop} {A : Nat → Prop} (E : Ev) (p_this : Nat) (p_text : Nat) (p_told : Nat) (p_draft : Nat) (p_s : Nat) (p_images : Nat) (p_kept : Nat) (p_notes : Nat) (p_held : Nat) (p_soonest : Nat) (v_trace : Int64) (v_typed : Int32) (v_noted : Int32) (v_at : Int32) (v_sort : Int32) (v_start : Int32) (v_value : Int32) (v_vanillaIn : Int32) (f_told : Nat → Int32) (f_s : Nat → Int32) (res : Int32) (X : Cx p s m args meth c cX5_moved 4 RX5 (some .int)) (hK : KK E A s s.heap) (hA : ∀ q, s.heap.size ≤ q → A q) (hret : RetI p l e (RM 3) s m args below meth c Q E A cX5_moved .int (w_X5_moved E p_this p_text p_told p_draft p_s p_images p_kept p_notes p_held p_soonest v_trace v_typed v_noted v_at v_sort v_start v_value v_vanillaIn f_told f_s) res) (K25 : Int32 → Int32 → Int32 → Option Int32) (hK25 : ∀ (x1 : Int32) (x2 : Int32) (x3 : Int32), K25 x1 x2 x3 = some res → ∀ (H : Heap) (locs : List Loc) (ls : Array Slot), lv_has ls 4 [(0, .ref p_this), (1, .int x1), (2, .int x2), (3, .int x3)] → va_P E.1 classes (w_X5_moved E p_this p_text p_told p_draft p_s p_images p_kept p_notes p_held p_soonest v_trace v_typed v_noted v_at v_sort v_start v_value v_vanillaIn f_told f_s) H → va_S A s.heap H locs → W p l e (RM 3) s m args below meth c H locs 0 0 Q (F0 m 25 ls [])) (x1 : Int32) (x3 : Int32) (k0 : Int32) (hf : f_X5_moved_81 v_vanillaIn f_told f_s  K25 x1 x3 k0 = some res) : ∀ (H : Heap) (locs : List Loc) (ls : Array Slot), lv_has ls 4 [(0, .ref p_this), (1, .int x1), (3, .int x3)] → va_P E.1 classes (w_X5_moved E p_this p_text p_told p_draft p_s p_images p_kept p_notes p_held p_soonest v_trace v_typed v_noted v_at v_sort v_start v_value v_vanillaIn f_told f_s) H → va_S A s.heap H locs → W p l e (RM 3) s m args below meth c H locs 0 0 Q (F0 m 81 ls [.int k0]) := by
  obtain ⟨hx, hb, hml, hown, hts, hrt, hlk⟩ := id X
  intro H locs ls hl hP hS
  unfold f_X5_moved_81 at hf
  refine lv_iconst (v := (0 : Int32)) hx hb dX5_moved_81 (by decide) ?_
  exact b_X5_moved_82 E p_this p_text p_told p_draft p_s p_images p_kept p_notes p_held p_soonest v_trace v_typed v_noted v_at v_sort v_start v_value v_vanillaIn f_told f_s res X hK hA hret  K25 hK25 x1 x3 (0 : Int32) k0 hf H locs ls (lv_sub hl [0, 1, 2] rfl) hP hS

set_option maxHeartbeats 4000000 in
set_option maxRecDepth 100000 in
theorem b_X5_moved_25 {p : Program} {l : Launch} {e : Env} {s : State} {m : MethodId} {args : Array Value} {below : List Frame} {meth : Method} {c : Code} {Q : State → Prop} {A : Nat → Prop} (E : Ev) (p_this : Nat) (p_text : Nat) (p_told : Nat) (p_draft : Nat) (p_s : Nat) (p_images : Nat) (p_kept : Nat) (p_notes : Nat) (p_held : Nat) (p_soonest : Nat) (v_trace : Int64) (v_typed : Int32) (v_noted : Int32) (v_at : Int32) (v_sort : Int32) (v_start : Int32) (v_value : Int32) (v_vanillaIn : Int32) (f_told : Nat → Int32) (f_s : Nat → Int32) (res : Int32) (X : Cx p s m args meth c cX5_moved 4 RX5 (some .int)) (hK : KK E A s s.heap) (hA : ∀ q, s.heap.size ≤ q → A q) (hret : RetI p l e (RM 3) s m args below meth c Q E A cX5_moved .int (w_X5_moved E p_this p_text p_told p_draft p_s p_images p_kept p_notes p_held p_soonest v_trace v_typed v_noted v_at v_sort v_start v_value v_vanillaIn f_told f_s) res)  : ∀ (n : Nat) (x1 : Int32) (x2 : Int32) (x3 : Int32), f_X5_moved_25 v_vanillaIn f_told f_s   n x1 x2 x3 = some res → ∀ (H : Heap) (locs : List Loc) (ls : Array Slot), lv_has ls 4 [(0, .ref p_this), (1, .int x1), (2, .int x2), (3, .int x3)] → va_P E.1 classes (w_X5_moved E p_this p_text p_told p_draft p_s p_images p_kept p_notes p_held p_soonest v_trace v_typed v_noted v_at v_sort v_start v_value v_vanillaIn f_told f_s) H → va_S A s.heap H locs → W p l e (RM 3) s m args below meth c H locs 0 0 Q (F0 m 25 ls []) := by
  obtain ⟨hx, hb, hml, hown, hts, hrt, hlk⟩ := id X
  intro n
  induction n with
  | zero => intro x1 x2 x3 hf; exact absurd hf (by simp [f_X5_moved_25])
  | succ n ih =>
    intro x1 x2 x3 hf H locs ls hl hP hS
    unfold f_X5_moved_25 at hf
    refine lv_iload_n hx hb dX5_moved_25 rfl (lv_at hl 3 rfl) ?_
    refine lv_aload_n hx hb dX5_moved_26 rfl (lv_at hl 0 rfl) ?_
    refine gf_RX5_13 X hK hP 0 rfl rfl dX5_moved_27 ?_
    refine lv_iconst (v := (1 : Int32)) hx hb dX5_moved_30 (by decide) ?_
    refine iald X hK hP 1 rfl 1 (by decide) (by decide) dX5_moved_31 ?_
    refine lv_icmp_ge (tgt := 90) hx hb dX5_moved_32 (by decide) (fun c_2 => ?_) (fun c_2 => ?_)
    · replace hf := ot c_2 hf
      refine lv_iload_n hx hb dX5_moved_90 rfl (lv_at hl 2 rfl) ?_
      obtain rfl := Option.some.inj hf
      exact hret H locs _ ls rfl hP hS dX5_moved_91
    · replace hf := of c_2 hf
      refine lv_iload_n hx hb dX5_moved_35 rfl (lv_at hl 2 rfl) ?_
      refine lv_aload_n hx hb dX5_moved_36 rfl (lv_at hl 0 rfl) ?_
      refine lv_iload_n hx hb dX5_moved_37 rfl (lv_at hl 3 rfl) ?_
      obtain ⟨u_3, hu_3, hf⟩ := ob hf
      refine pV X hK hA hP hS hl.1 (m_X5_isOut (l := l) E p_this p_text p_told p_draft p_s p_images p_kept p_notes p_held p_soonest v_trace v_typed v_noted v_at v_sort v_start v_value v_vanillaIn f_s x3 u_3 hu_3) kRX5_114 [0, 2] rfl rfl rfl rfl ⟨⟨(Nat.le_of_ble_eq_true rfl), (Nat.le_of_ble_eq_true rfl)⟩, Nat.zero_le _, Nat.zero_le _⟩ rfl rfl (Nat.le_of_ble_eq_true rfl) dX5_moved_38 (fun H locs hP hS => ?_)
      refine lv_if_eq (tgt := 81) hx hb dX5_moved_41 (by decide) (fun c_4 => ?_) (fun c_4 => ?_)
      · replace hf := ot c_4 hf
        exact b_X5_moved_81 E p_this p_text p_told p_draft p_s p_images p_kept p_notes p_held p_soonest v_trace v_typed v_noted v_at v_sort v_start v_value v_vanillaIn f_told f_s res X hK hA hret  (f_X5_moved_25 v_vanillaIn f_told f_s   n) ih x1 x3 x2 hf H locs ls (lv_sub hl [0, 1, 3] rfl) hP hS
      · replace hf := of c_4 hf
        refine lv_aload_n hx hb dX5_moved_44 rfl (lv_at hl 0 rfl) ?_
        refine lv_iload_n hx hb dX5_moved_45 rfl (lv_at hl 3 rfl) ?_
        refine lv_aload_n hx hb dX5_moved_46 rfl (lv_at hl 0 rfl) ?_
        refine gf_RX5_19 X hK hP 0 rfl rfl dX5_moved_47 ?_
        refine lv_bipush (v := (12 : Int32)) hx hb dX5_moved_50 (by decide) ?_
        refine iald X hK hP 2 rfl 12 (by decide) (by decide) dX5_moved_52 ?_
        obtain ⟨u_6, hu_6, hf⟩ := ob hf
        refine pV X hK hA hP hS hl.1 (m_X5_noseOf (l := l) E p_this p_text p_told p_draft p_s p_images p_kept p_notes p_held p_soonest v_trace v_typed v_noted v_at v_sort v_start v_value v_vanillaIn f_told f_s x3 (f_s 12) u_6 hu_6) kRX5_117 [0, 1, 2] rfl rfl rfl rfl ⟨⟨(Nat.le_of_ble_eq_true rfl), (Nat.le_of_ble_eq_true rfl)⟩, Nat.zero_le _, Nat.zero_le _⟩ rfl rfl (Nat.le_of_ble_eq_true rfl) dX5_moved_53 (fun H locs hP hS => ?_)
        refine lv_aload_n hx hb dX5_moved_56 rfl (lv_at hl 0 rfl) ?_
        refine lv_iload_n hx hb dX5_moved_57 rfl (lv_at hl 3 rfl) ?_
        refine lv_aload_n hx hb dX5_moved_58 rfl (lv_at hl 0 rfl) ?_
        refine gf_RX5_19 X hK hP 0 rfl rfl dX5_moved_59 ?_
        refine lv_bipush (v := (12 : Int32)) hx hb dX5_moved_62 (by decide) ?_
        refine iald X hK hP 2 rfl 12 (by decide) (by decide) dX5_moved_64 ?_
        refine lv_iconst (v := (1 : Int32)) hx hb dX5_moved_65 (by decide) ?_
        refine lv_iload_n hx hb dX5_moved_66 rfl (lv_at hl 1 rfl) ?_
        refine lv_ishl hx hb dX5_moved_67 ?_
        refine lv_ior hx hb dX5_moved_68 ?_
        obtain ⟨u_8, hu_8, hf⟩ := ob hf
        refine pV X hK hA hP hS hl.1 (m_X5_noseOf (l := l) E p_this p_text p_told p_draft p_s p_images p_kept p_notes p_held p_soonest v_trace v_typed v_noted v_at v_sort v_start v_value v_vanillaIn f_told f_s x3 ((f_s 12) ||| ((1 : Int32) <<< (x1 &&& 31))) u_8 hu_8) kRX5_117 [0, 1, 2] rfl rfl rfl rfl ⟨⟨(Nat.le_of_ble_eq_true rfl), (Nat.le_of_ble_eq_true rfl)⟩, Nat.zero_le _, Nat.zero_le _⟩ rfl rfl (Nat.le_of_ble_eq_true rfl) dX5_moved_69 (fun H locs hP hS => ?_)
        refine lv_icmp_eq (tgt := 81) hx hb dX5_moved_72 (by decide) (fun c_9 => ?_) (fun c_9 => ?_)
        · replace hf := ot c_9 hf
          exact b_X5_moved_81 E p_this p_text p_told p_draft p_s p_images p_kept p_notes p_held p_soonest v_trace v_typed v_noted v_at v_sort v_start v_value v_vanillaIn f_told f_s res X hK hA hret  (f_X5_moved_25 v_vanillaIn f_told f_s   n) ih x1 x3 x2 hf H locs ls (lv_sub hl [0, 1, 3] rfl) hP hS
        · replace hf := of c_9 hf
          refine lv_iconst (v := (1 : Int32)) hx hb dX5_moved_75 (by decide) ?_
          refine lv_iload_n hx hb dX5_moved_76 rfl (lv_at hl 3 rfl) ?_
          refine lv_ishl hx hb dX5_moved_77 ?_
          refine lv_goto (tgt := 82) hx hb dX5_moved_78 (by decide) ?_
          exact b_X5_moved_82 E p_this p_text p_told p_draft p_s p_images p_kept p_notes p_held p_soonest v_trace v_typed v_noted v_at v_sort v_start v_value v_vanillaIn f_told f_s res X hK hA hret  (f_X5_moved_25 v_vanillaIn f_told f_s   n) ih x1 x3 ((1 : Int32) <<< (x3 &&& 31)) x2 hf H locs ls (lv_sub hl [0, 1, 3] rfl) hP hS

set_option maxHeartbeats 4000000 in
set_option maxRecDepth 100000 in
theorem m_X5_moved {l : Launch} (E : Ev) (p_this : Nat) (p_text : Nat) (p_told : Nat) (p_draft : Nat) (p_s : Nat) (p_images : Nat) (p_kept : Nat) (p_notes : Nat) (p_held : Nat) (p_soonest : Nat) (v_trace : Int64) (v_typed : Int32) (v_noted : Int32) (v_at : Int32) (v_sort : Int32) (v_start : Int32) (v_value : Int32) (v_vanillaIn : Int32) (f_told : Nat → Int32) (f_s : Nat → Int32) (x1 : Int32) (res : Int32) (hf : f_X5_moved  v_vanillaIn f_told f_s x1 = some res) : PureI l E 3 yX5_moved cX5_moved 4 .int [.ref p_this, .int x1] (w_X5_moved E p_this p_text p_told p_draft p_s p_images p_kept p_notes p_held p_soonest v_trace v_typed v_noted v_at v_sort v_start v_value v_vanillaIn f_told f_s) res := by
  refine PureI.of (by decide) (Nat.le_of_ble_eq_true rfl) ?_
  intro p e s m args below meth c Q A X hK hA hret H locs ls hl hP hS
  obtain ⟨hx, hb, hml, hown, hts, hrt, hlk⟩ := id X
  have hl : lv_has ls 4 [(0, .ref p_this), (1, .int x1)] := hl
  unfold f_X5_moved at hf
  refine lv_aload_n hx hb dX5_moved_0 rfl (lv_at hl 0 rfl) ?_
  refine lv_iload_n hx hb dX5_moved_1 rfl (lv_at hl 1 rfl) ?_
  obtain ⟨u_1, hu_1, hf⟩ := ob hf
  refine pV X hK hA hP hS hl.1 (m_X5_isOven (l := l) E p_this p_text p_told p_draft p_s p_images p_kept p_notes p_held p_soonest v_trace v_typed v_noted v_at v_sort v_start v_value v_vanillaIn f_told x1 u_1 hu_1) kRX5_97 [0, 1] rfl rfl rfl rfl ⟨⟨(Nat.le_of_ble_eq_true rfl), (Nat.le_of_ble_eq_true rfl)⟩, Nat.zero_le _, Nat.zero_le _⟩ rfl rfl (Nat.le_of_ble_eq_true rfl) dX5_moved_2 (fun H locs hP hS => ?_)
  refine lv_if_ne (tgt := 10) hx hb dX5_moved_5 (by decide) (fun c_2 => ?_) (fun c_2 => ?_)
  · replace hf := of c_2 hf
    refine lv_aload_n hx hb dX5_moved_10 rfl (lv_at hl 0 rfl) ?_
    refine lv_iload_n hx hb dX5_moved_11 rfl (lv_at hl 1 rfl) ?_
    obtain ⟨u_3, hu_3, hf⟩ := ob hf
    refine pV X hK hA hP hS hl.1 (m_X5_isShut (l := l) E p_this p_text p_told p_draft p_s p_images p_kept p_notes p_held p_soonest v_trace v_typed v_noted v_at v_sort v_start v_value v_vanillaIn f_s x1 u_3 hu_3) kRX5_104 [0, 2] rfl rfl rfl rfl ⟨⟨(Nat.le_of_ble_eq_true rfl), (Nat.le_of_ble_eq_true rfl)⟩, Nat.zero_le _, Nat.zero_le _⟩ rfl rfl (Nat.le_of_ble_eq_true rfl) dX5_moved_12 (fun H locs hP hS => ?_)
    refine lv_if_eq (tgt := 21) hx hb dX5_moved_15 (by decide) (fun c_4 => ?_) (fun c_4 => ?_)
    · replace hf := ot c_4 hf
      refine lv_iconst (v := (0 : Int32)) hx hb dX5_moved_21 (by decide) ?_
      refine lv_istore_n (lv' := [(2, .int (0 : Int32)), (0, .ref p_this), (1, .int x1)]) hx hb dX5_moved_22 rfl hl (by decide) rfl (fun ls hl => ?_)
      refine lv_iconst (v := (0 : Int32)) hx hb dX5_moved_23 (by decide) ?_
      refine lv_istore_n (lv' := [(3, .int (0 : Int32)), (2, .int (0 : Int32)), (0, .ref p_this), (1, .int x1)]) hx hb dX5_moved_24 rfl hl (by decide) rfl (fun ls hl => ?_)
      exact b_X5_moved_25 E p_this p_text p_told p_draft p_s p_images p_kept p_notes p_held p_soonest v_trace v_typed v_noted v_at v_sort v_start v_value v_vanillaIn f_told f_s res X hK hA hret   FU x1 (0 : Int32) (0 : Int32) hf H locs ls (lv_sub hl [2, 3, 1, 0] rfl) hP hS
    · replace hf := of c_4 hf
      refine lv_bipush (v := (-2 : Int32)) hx hb dX5_moved_18 (by decide) ?_
      obtain rfl := Option.some.inj hf
      exact hret H locs _ ls rfl hP hS dX5_moved_20
  · replace hf := ot c_2 hf
    refine lv_iconst (v := (-1 : Int32)) hx hb dX5_moved_8 (by decide) ?_
    obtain rfl := Option.some.inj hf
    exact hret H locs _ ls rfl hP hS dX5_moved_9

abbrev w_X5_doneBy (E : Ev) (p_this : Nat) (p_text : Nat) (p_told : Nat) (p_draft : Nat) (p_s : Nat) (p_images : Nat) (p_kept : Nat) (p_notes : Nat) (p_held : Nat) (p_soonest : Nat) (v_trace : Int64) (v_typed : Int32) (v_noted : Int32) (v_at : Int32) (v_sort : Int32) (v_start : Int32) (v_value : Int32) (v_vanillaIn : Int32) (f_told : Nat → Int32) (f_s : Nat → Int32) : va_W := [(p_this, .inr (5, [.long v_trace, .ref p_text, .int v_typed, .ref p_told, .ref p_draft, .ref p_s, .ref p_images, .ref p_kept, .ref p_notes, .int v_noted, .int v_at, .int v_sort, .int v_start, .int v_value, .int v_vanillaIn, .ref p_held, .ref p_soonest])), (p_told, .inl (E.2.1, 43, .inl f_told)), (p_s, .inl (E.2.1, 155, .inl f_s))]
set_option maxHeartbeats 4000000 in
set_option maxRecDepth 100000 in
theorem b_X5_doneBy_42 {p : Program} {l : Launch} {e : Env} {s : State} {m : MethodId} {args : Array Value} {below : List Frame} {meth : Method} {c : Code} {Q : State → Prop} {A : Nat → Prop} (E : Ev) (p_this : Nat) (p_text : Nat) (p_told : Nat) (p_draft : Nat) (p_s : Nat) (p_images : Nat) (p_kept : Nat) (p_notes : Nat) (p_held : Nat) (p_soonest : Nat) (v_trace : Int64) (v_typed : Int32) (v_noted : Int32) (v_at : Int32) (v_sort : Int32) (v_start : Int32) (v_value : Int32) (v_vanillaIn : Int32) (f_told : Nat → Int32) (f_s : Nat → Int32) (res : Int32) (X : Cx p s m args meth c cX5_doneBy 8 RX5 (some .int)) (hK : KK E A s s.heap) (hA : ∀ q, s.heap.size ≤ q → A q) (hret : RetI p l e (RM 2) s m args below meth c Q E A cX5_doneBy .int (w_X5_doneBy E p_this p_text p_told p_draft p_s p_images p_kept p_notes p_held p_soonest v_trace v_typed v_noted v_at v_sort v_start v_value v_vanillaIn f_told f_s) res)  (x1 : Int32) (x4 : Int32) (x5 : Int32) (k0 : Int32) (hf : f_X5_doneBy_42 f_told f_s   x1 x4 x5 k0 = some res) : ∀ (H : Heap) (locs : List Loc) (ls : Array Slot), lv_has ls 8 [(0, .ref p_this), (1, .int x1), (4, .int x4), (5, .int x5)] → va_P E.1 classes (w_X5_doneBy E p_this p_text p_told p_draft p_s p_images p_kept p_notes p_held p_soonest v_trace v_typed v_noted v_at v_sort v_start v_value v_vanillaIn f_told f_s) H → va_S A s.heap H locs → W p l e (RM 2) s m args below meth c H locs 0 0 Q (F0 m 42 ls [.int k0]) := by
  obtain ⟨hx, hb, hml, hown, hts, hrt, hlk⟩ := id X
  intro H locs ls hl hP hS
  unfold f_X5_doneBy_42 at hf
  refine lv_istore (lv' := [(6, .int k0), (0, .ref p_this), (1, .int x1), (4, .int x4), (5, .int x5)]) hx hb dX5_doneBy_42 hl (by decide) rfl (fun ls hl => ?_)
  refine lv_iload hx hb dX5_doneBy_44 (lv_at hl 4 rfl) ?_
  refine lv_if_eq (tgt := 71) hx hb dX5_doneBy_46 (by decide) (fun c_1 => ?_) (fun c_1 => ?_)
  · replace hf := ot c_1 hf
    refine lv_bipush (v := (-9 : Int32)) hx hb dX5_doneBy_71 (by decide) ?_
    obtain rfl := Option.some.inj hf
    exact hret H locs _ ls rfl hP hS dX5_doneBy_73
  · replace hf := of c_1 hf
    refine lv_aload_n hx hb dX5_doneBy_49 rfl (lv_at hl 1 rfl) ?_
    refine lv_iload_n hx hb dX5_doneBy_50 rfl (lv_at hl 2 rfl) ?_
    obtain ⟨u_2, hu_2, hf⟩ := ob hf
    refine pV X hK hA hP hS hl.1 (m_X5_isOut (l := l) E p_this p_text p_told p_draft p_s p_images p_kept p_notes p_held p_soonest v_trace v_typed v_noted v_at v_sort v_start v_value v_vanillaIn f_s x1 u_2 hu_2) kRX5_114 [0, 2] rfl rfl rfl rfl ⟨⟨(Nat.le_of_ble_eq_true rfl), (Nat.le_of_ble_eq_true rfl)⟩, Nat.zero_le _, Nat.zero_le _⟩ rfl rfl (Nat.le_of_ble_eq_true rfl) dX5_doneBy_51 (fun H locs hP hS => ?_)
    refine lv_if_eq (tgt := 71) hx hb dX5_doneBy_54 (by decide) (fun c_3 => ?_) (fun c_3 => ?_)
    · replace hf := ot c_3 hf
      refine lv_bipush (v := (-9 : Int32)) hx hb dX5_doneBy_71 (by decide) ?_
      obtain rfl := Option.some.inj hf
      exact hret H locs _ ls rfl hP hS dX5_doneBy_73
    · replace hf := of c_3 hf
      refine lv_iload hx hb dX5_doneBy_57 (lv_at hl 0 rfl) ?_
      refine lv_aload_n hx hb dX5_doneBy_59 rfl (lv_at hl 1 rfl) ?_
      refine gf_RX5_13 X hK hP 0 rfl rfl dX5_doneBy_60 ?_
      refine lv_bipush (v := (37 : Int32)) hx hb dX5_doneBy_63 (by decide) ?_
      refine lv_iload_n hx hb dX5_doneBy_65 rfl (lv_at hl 2 rfl) ?_
      refine lv_iadd hx hb dX5_doneBy_66 ?_
      obtain ⟨g_4, hf⟩ := og hf
      refine iald X hK hP 1 rfl _ rfl g_4 dX5_doneBy_67 ?_
      refine lv_icmp_le (tgt := 74) hx hb dX5_doneBy_68 (by decide) (fun c_5 => ?_) (fun c_5 => ?_)
      · replace hf := ot c_5 hf
        refine lv_iload hx hb dX5_doneBy_74 (lv_at hl 0 rfl) ?_
        refine lv_aload_n hx hb dX5_doneBy_76 rfl (lv_at hl 1 rfl) ?_
        refine gf_RX5_13 X hK hP 0 rfl rfl dX5_doneBy_77 ?_
        refine lv_bipush (v := (25 : Int32)) hx hb dX5_doneBy_80 (by decide) ?_
        refine lv_iload_n hx hb dX5_doneBy_82 rfl (lv_at hl 2 rfl) ?_
        refine lv_iadd hx hb dX5_doneBy_83 ?_
        obtain ⟨g_6, hf⟩ := og hf
        refine iald X hK hP 1 rfl _ rfl g_6 dX5_doneBy_84 ?_
        refine lv_iload hx hb dX5_doneBy_85 (lv_at hl 4 rfl) ?_
        refine lv_iadd hx hb dX5_doneBy_87 ?_
        refine lv_iconst (v := (1 : Int32)) hx hb dX5_doneBy_88 (by decide) ?_
        refine lv_isub hx hb dX5_doneBy_89 ?_
        refine lv_iload hx hb dX5_doneBy_90 (lv_at hl 4 rfl) ?_
        obtain ⟨g_7, hf⟩ := og hf
        refine lv_idiv hx hb dX5_doneBy_92 g_7 ?_
        refine lv_iadd hx hb dX5_doneBy_93 ?_
        refine lv_istore (lv' := [(7, .int (k0 + ((((f_told ((25 : Int32) + x1).toNatClampNeg) + x5) - (1 : Int32)) / x5))), (6, .int k0), (0, .ref p_this), (1, .int x1), (4, .int x4), (5, .int x5)]) hx hb dX5_doneBy_94 hl (by decide) rfl (fun ls hl => ?_)
        refine lv_iload hx hb dX5_doneBy_96 (lv_at hl 0 rfl) ?_
        refine lv_iload hx hb dX5_doneBy_98 (lv_at hl 4 rfl) ?_
        refine lv_icmp_le (tgt := 108) hx hb dX5_doneBy_100 (by decide) (fun c_8 => ?_) (fun c_8 => ?_)
        · replace hf := ot c_8 hf
          refine lv_iload hx hb dX5_doneBy_108 (lv_at hl 0 rfl) ?_
          obtain rfl := Option.some.inj hf
          exact hret H locs _ ls rfl hP hS dX5_doneBy_110
        · replace hf := of c_8 hf
          refine lv_bipush (v := (-9 : Int32)) hx hb dX5_doneBy_103 (by decide) ?_
          refine lv_goto (tgt := 110) hx hb dX5_doneBy_105 (by decide) ?_
          obtain rfl := Option.some.inj hf
          exact hret H locs _ ls rfl hP hS dX5_doneBy_110
      · replace hf := of c_5 hf
        refine lv_bipush (v := (-9 : Int32)) hx hb dX5_doneBy_71 (by decide) ?_
        obtain rfl := Option.some.inj hf
        exact hret H locs _ ls rfl hP hS dX5_doneBy_73

set_option maxHeartbeats 4000000 in
set_option maxRecDepth 100000 in
theorem m_X5_doneBy {l : Launch} (E : Ev) (p_this : Nat) (p_text : Nat) (p_told : Nat) (p_draft : Nat) (p_s : Nat) (p_images : Nat) (p_kept : Nat) (p_notes : Nat) (p_held : Nat) (p_soonest : Nat) (v_trace : Int64) (v_typed : Int32) (v_noted : Int32) (v_at : Int32) (v_sort : Int32) (v_start : Int32) (v_value : Int32) (v_vanillaIn : Int32) (f_told : Nat → Int32) (f_s : Nat → Int32) (x1 : Int32) (x2 : Int32) (x3 : Int32) (x4 : Int32) (res : Int32) (hf : f_X5_doneBy  f_told f_s x1 x2 x3 x4 = some res) : PureI l E 2 yX5_doneBy cX5_doneBy 8 .int [.ref p_this, .int x1, .int x2, .int x3, .int x4] (w_X5_doneBy E p_this p_text p_told p_draft p_s p_images p_kept p_notes p_held p_soonest v_trace v_typed v_noted v_at v_sort v_start v_value v_vanillaIn f_told f_s) res := by
  refine PureI.of (by decide) (Nat.le_of_ble_eq_true rfl) ?_
  intro p e s m args below meth c Q A X hK hA hret H locs ls hl hP hS
  obtain ⟨hx, hb, hml, hown, hts, hrt, hlk⟩ := id X
  have hl : lv_has ls 8 [(0, .ref p_this), (1, .int x1), (2, .int x2), (3, .int x3), (4, .int x4)] := hl
  unfold f_X5_doneBy at hf
  refine lv_aload_n hx hb dX5_doneBy_0 rfl (lv_at hl 0 rfl) ?_
  refine gf_RX5_13 X hK hP 0 rfl rfl dX5_doneBy_1 ?_
  refine lv_iconst (v := (3 : Int32)) hx hb dX5_doneBy_4 (by decide) ?_
  refine lv_iload_n hx hb dX5_doneBy_5 rfl (lv_at hl 2 rfl) ?_
  refine lv_iadd hx hb dX5_doneBy_6 ?_
  obtain ⟨g_1, hf⟩ := og hf
  refine iald X hK hP 1 rfl _ rfl g_1 dX5_doneBy_7 ?_
  refine lv_bipush (v := (9 : Int32)) hx hb dX5_doneBy_8 (by decide) ?_
  refine lv_imul hx hb dX5_doneBy_10 ?_
  refine lv_bipush (v := (10 : Int32)) hx hb dX5_doneBy_11 (by decide) ?_
  refine lv_idiv hx hb dX5_doneBy_13 (by decide) ?_
  refine lv_istore (lv' := [(5, .int (((f_told ((3 : Int32) + x2).toNatClampNeg) * (9 : Int32)) / (10 : Int32))), (0, .ref p_this), (1, .int x1), (2, .int x2), (3, .int x3), (4, .int x4)]) hx hb dX5_doneBy_14 hl (by decide) rfl (fun ls hl => ?_)
  refine lv_iload_n hx hb dX5_doneBy_16 rfl (lv_at hl 4 rfl) ?_
  refine lv_aload_n hx hb dX5_doneBy_17 rfl (lv_at hl 1 rfl) ?_
  refine gf_RX5_13 X hK hP 0 rfl rfl dX5_doneBy_18 ?_
  refine lv_bipush (v := (31 : Int32)) hx hb dX5_doneBy_21 (by decide) ?_
  refine lv_iload_n hx hb dX5_doneBy_23 rfl (lv_at hl 2 rfl) ?_
  refine lv_iadd hx hb dX5_doneBy_24 ?_
  obtain ⟨g_3, hf⟩ := og hf
  refine iald X hK hP 1 rfl _ rfl g_3 dX5_doneBy_25 ?_
  refine lv_icmp_le (tgt := 33) hx hb dX5_doneBy_26 (by decide) (fun c_4 => ?_) (fun c_4 => ?_)
  · replace hf := ot c_4 hf
    refine lv_aload_n hx hb dX5_doneBy_33 rfl (lv_at hl 1 rfl) ?_
    refine gf_RX5_13 X hK hP 0 rfl rfl dX5_doneBy_34 ?_
    refine lv_bipush (v := (31 : Int32)) hx hb dX5_doneBy_37 (by decide) ?_
    refine lv_iload_n hx hb dX5_doneBy_39 rfl (lv_at hl 2 rfl) ?_
    refine lv_iadd hx hb dX5_doneBy_40 ?_
    obtain ⟨g_5, hf⟩ := og hf
    refine iald X hK hP 1 rfl _ rfl g_5 dX5_doneBy_41 ?_
    exact b_X5_doneBy_42 E p_this p_text p_told p_draft p_s p_images p_kept p_notes p_held p_soonest v_trace v_typed v_noted v_at v_sort v_start v_value v_vanillaIn f_told f_s res X hK hA hret   x1 x4 (((f_told ((3 : Int32) + x2).toNatClampNeg) * (9 : Int32)) / (10 : Int32)) (f_told ((31 : Int32) + x1).toNatClampNeg) hf H locs ls (lv_sub hl [1, 2, 5, 0] rfl) hP hS
  · replace hf := of c_4 hf
    refine lv_iload_n hx hb dX5_doneBy_29 rfl (lv_at hl 4 rfl) ?_
    refine lv_goto (tgt := 42) hx hb dX5_doneBy_30 (by decide) ?_
    exact b_X5_doneBy_42 E p_this p_text p_told p_draft p_s p_images p_kept p_notes p_held p_soonest v_trace v_typed v_noted v_at v_sort v_start v_value v_vanillaIn f_told f_s res X hK hA hret   x1 x4 (((f_told ((3 : Int32) + x2).toNatClampNeg) * (9 : Int32)) / (10 : Int32)) x3 hf H locs ls (lv_sub hl [1, 2, 5, 0] rfl) hP hS

abbrev w_X5_reckons (E : Ev) (p_this : Nat) (p_text : Nat) (p_told : Nat) (p_draft : Nat) (p_s : Nat) (p_images : Nat) (p_kept : Nat) (p_notes : Nat) (p_held : Nat) (p_soonest : Nat) (v_trace : Int64) (v_typed : Int32) (v_noted : Int32) (v_at : Int32) (v_sort : Int32) (v_start : Int32) (v_value : Int32) (v_vanillaIn : Int32) (f_soonest : Nat → Int32) (f_told : Nat → Int32) (f_s : Nat → Int32) : va_W := [(p_this, .inr (5, [.long v_trace, .ref p_text, .int v_typed, .ref p_told, .ref p_draft, .ref p_s, .ref p_images, .ref p_kept, .ref p_notes, .int v_noted, .int v_at, .int v_sort, .int v_start, .int v_value, .int v_vanillaIn, .ref p_held, .ref p_soonest])), (p_soonest, .inl (E.2.1, 64, .inl f_soonest)), (p_told, .inl (E.2.1, 43, .inl f_told)), (p_s, .inl (E.2.1, 155, .inl f_s))]
set_option maxHeartbeats 4000000 in
set_option maxRecDepth 100000 in
theorem b_X5_reckons_175 {p : Program} {l : Launch} {e : Env} {s : State} {m : MethodId} {args : Array Value} {below : List Frame} {meth : Method} {c : Code} {Q : State → Prop} {A : Nat → Prop} (E : Ev) (p_this : Nat) (p_text : Nat) (p_told : Nat) (p_draft : Nat) (p_s : Nat) (p_images : Nat) (p_kept : Nat) (p_notes : Nat) (p_held : Nat) (p_soonest : Nat) (v_trace : Int64) (v_typed : Int32) (v_noted : Int32) (v_at : Int32) (v_sort : Int32) (v_start : Int32) (v_value : Int32) (v_vanillaIn : Int32) (f_told : Nat → Int32) (f_s : Nat → Int32) (res : (Nat → Int32)) (X : Cx p s m args meth c cX5_reckons 10 RX5 none) (hK : KK E A s s.heap) (hA : ∀ q, s.heap.size ≤ q → A q) (hret : RetV p l e (RM 3) s m args below meth c Q E A cX5_reckons (w_X5_reckons E p_this p_text p_told p_draft p_s p_images p_kept p_notes p_held p_soonest v_trace v_typed v_noted v_at v_sort v_start v_value v_vanillaIn res f_told f_s)) (K38 : (Nat → Int32) → Int32 → Int32 → Int32 → Option ((Nat → Int32))) (hK38 : ∀ (f_soonest : Nat → Int32) (x1 : Int32) (x4 : Int32) (x5 : Int32), K38 f_soonest x1 x4 x5 = some res → ∀ (H : Heap) (locs : List Loc) (ls : Array Slot), lv_has ls 10 [(0, .ref p_this), (1, .int x1), (4, .int x4), (5, .int x5)] → va_P E.1 classes (w_X5_reckons E p_this p_text p_told p_draft p_s p_images p_kept p_notes p_held p_soonest v_trace v_typed v_noted v_at v_sort v_start v_value v_vanillaIn f_soonest f_told f_s) H → va_D A (w_X5_reckons E p_this p_text p_told p_draft p_s p_images p_kept p_notes p_held p_soonest v_trace v_typed v_noted v_at v_sort v_start v_value v_vanillaIn f_soonest f_told f_s) → va_S A s.heap H locs → W p l e (RM 3) s m args below meth c H locs 0 0 Q (F0 m 38 ls [])) (K54 : (Nat → Int32) → Int32 → Int32 → Int32 → Int32 → Option ((Nat → Int32))) (hK54 : ∀ (f_soonest : Nat → Int32) (x1 : Int32) (x4 : Int32) (x5 : Int32) (x6 : Int32), K54 f_soonest x1 x4 x5 x6 = some res → ∀ (H : Heap) (locs : List Loc) (ls : Array Slot), lv_has ls 10 [(0, .ref p_this), (1, .int x1), (4, .int x4), (5, .int x5), (6, .int x6)] → va_P E.1 classes (w_X5_reckons E p_this p_text p_told p_draft p_s p_images p_kept p_notes p_held p_soonest v_trace v_typed v_noted v_at v_sort v_start v_value v_vanillaIn f_soonest f_told f_s) H → va_D A (w_X5_reckons E p_this p_text p_told p_draft p_s p_images p_kept p_notes p_held p_soonest v_trace v_typed v_noted v_at v_sort v_start v_value v_vanillaIn f_soonest f_told f_s) → va_S A s.heap H locs → W p l e (RM 3) s m args below meth c H locs 0 0 Q (F0 m 54 ls [])) (f_soonest : Nat → Int32) (x1 : Int32) (x4 : Int32) (x5 : Int32) (x6 : Int32) (k0 : Int32) (k1 : Int32) (hf : f_X5_reckons_175 f_told f_s  K38 K54 f_soonest x1 x4 x5 x6 k0 k1 = some res) : ∀ (H : Heap) (locs : List Loc) (ls : Array Slot), lv_has ls 10 [(0, .ref p_this), (1, .int x1), (4, .int x4), (5, .int x5), (6, .int x6)] → va_P E.1 classes (w_X5_reckons E p_this p_text p_told p_draft p_s p_images p_kept p_notes p_held p_soonest v_trace v_typed v_noted v_at v_sort v_start v_value v_vanillaIn f_soonest f_told f_s) H → va_D A (w_X5_reckons E p_this p_text p_told p_draft p_s p_images p_kept p_notes p_held p_soonest v_trace v_typed v_noted v_at v_sort v_start v_value v_vanillaIn f_soonest f_told f_s) → va_S A s.heap H locs → W p l e (RM 3) s m args below meth c H locs 0 0 Q (F0 m 175 ls [.int k0, .int k1, .ref p_soonest]) := by
  obtain ⟨hx, hb, hml, hown, hts, hrt, hlk⟩ := id X
  intro H locs ls hl hP hD hS
  unfold f_X5_reckons_175 at hf
  obtain ⟨g_1, hf⟩ := og hf
  refine iast X hK hP hD hS 1 rfl _ rfl g_1 dX5_reckons_175 (fun H locs hP hD hS => ?_)
  have hP : va_P E.1 classes (w_X5_reckons E p_this p_text p_told p_draft p_s p_images p_kept p_notes p_held p_soonest v_trace v_typed v_noted v_at v_sort v_start v_value v_vanillaIn (upd f_soonest k1.toNatClampNeg k0) f_told f_s) H := hP
  have hD : va_D A (w_X5_reckons E p_this p_text p_told p_draft p_s p_images p_kept p_notes p_held p_soonest v_trace v_typed v_noted v_at v_sort v_start v_value v_vanillaIn (upd f_soonest k1.toNatClampNeg k0) f_told f_s) := hD
  refine lv_iinc (v := (x6 + (1 : Int32))) (lv' := [(6, .int (x6 + (1 : Int32))), (0, .ref p_this), (1, .int x1), (4, .int x4), (5, .int x5)]) hx hb dX5_reckons_176 hl (k := 4) rfl rfl (by decide) rfl (fun ls hl => ?_)
  refine lv_goto (tgt := 54) hx hb dX5_reckons_179 (by decide) ?_
  exact hK54 (upd f_soonest k1.toNatClampNeg k0) x1 x4 x5 (x6 + (1 : Int32)) hf H locs ls (lv_sub hl [1, 2, 3, 4, 0] rfl) hP hD hS

set_option maxHeartbeats 4000000 in
set_option maxRecDepth 100000 in
theorem b_X5_reckons_150 {p : Program} {l : Launch} {e : Env} {s : State} {m : MethodId} {args : Array Value} {below : List Frame} {meth : Method} {c : Code} {Q : State → Prop} {A : Nat → Prop} (E : Ev) (p_this : Nat) (p_text : Nat) (p_told : Nat) (p_draft : Nat) (p_s : Nat) (p_images : Nat) (p_kept : Nat) (p_notes : Nat) (p_held : Nat) (p_soonest : Nat) (v_trace : Int64) (v_typed : Int32) (v_noted : Int32) (v_at : Int32) (v_sort : Int32) (v_start : Int32) (v_value : Int32) (v_vanillaIn : Int32) (f_told : Nat → Int32) (f_s : Nat → Int32) (res : (Nat → Int32)) (X : Cx p s m args meth c cX5_reckons 10 RX5 none) (hK : KK E A s s.heap) (hA : ∀ q, s.heap.size ≤ q → A q) (hret : RetV p l e (RM 3) s m args below meth c Q E A cX5_reckons (w_X5_reckons E p_this p_text p_told p_draft p_s p_images p_kept p_notes p_held p_soonest v_trace v_typed v_noted v_at v_sort v_start v_value v_vanillaIn res f_told f_s)) (K38 : (Nat → Int32) → Int32 → Int32 → Int32 → Option ((Nat → Int32))) (hK38 : ∀ (f_soonest : Nat → Int32) (x1 : Int32) (x4 : Int32) (x5 : Int32), K38 f_soonest x1 x4 x5 = some res → ∀ (H : Heap) (locs : List Loc) (ls : Array Slot), lv_has ls 10 [(0, .ref p_this), (1, .int x1), (4, .int x4), (5, .int x5)] → va_P E.1 classes (w_X5_reckons E p_this p_text p_told p_draft p_s p_images p_kept p_notes p_held p_soonest v_trace v_typed v_noted v_at v_sort v_start v_value v_vanillaIn f_soonest f_told f_s) H → va_D A (w_X5_reckons E p_this p_text p_told p_draft p_s p_images p_kept p_notes p_held p_soonest v_trace v_typed v_noted v_at v_sort v_start v_value v_vanillaIn f_soonest f_told f_s) → va_S A s.heap H locs → W p l e (RM 3) s m args below meth c H locs 0 0 Q (F0 m 38 ls [])) (K54 : (Nat → Int32) → Int32 → Int32 → Int32 → Int32 → Option ((Nat → Int32))) (hK54 : ∀ (f_soonest : Nat → Int32) (x1 : Int32) (x4 : Int32) (x5 : Int32) (x6 : Int32), K54 f_soonest x1 x4 x5 x6 = some res → ∀ (H : Heap) (locs : List Loc) (ls : Array Slot), lv_has ls 10 [(0, .ref p_this), (1, .int x1), (4, .int x4), (5, .int x5), (6, .int x6)] → va_P E.1 classes (w_X5_reckons E p_this p_text p_told p_draft p_s p_images p_kept p_notes p_held p_soonest v_trace v_typed v_noted v_at v_sort v_start v_value v_vanillaIn f_soonest f_told f_s) H → va_D A (w_X5_reckons E p_this p_text p_told p_draft p_s p_images p_kept p_notes p_held p_soonest v_trace v_typed v_noted v_at v_sort v_start v_value v_vanillaIn f_soonest f_told f_s) → va_S A s.heap H locs → W p l e (RM 3) s m args below meth c H locs 0 0 Q (F0 m 54 ls [])) (f_soonest : Nat → Int32) (x1 : Int32) (x4 : Int32) (x5 : Int32) (x6 : Int32) (x7 : Int32) (x8 : Int32) (k0 : Int32) (hf : f_X5_reckons_150 f_told f_s  K38 K54 f_soonest x1 x4 x5 x6 x7 x8 k0 = some res) : ∀ (H : Heap) (locs : List Loc) (ls : Array Slot), lv_has ls 10 [(0, .ref p_this), (1, .int x1), (4, .int x4), (5, .int x5), (6, .int x6), (7, .int x7), (8, .int x8)] → va_P E.1 classes (w_X5_reckons E p_this p_text p_told p_draft p_s p_images p_kept p_notes p_held p_soonest v_trace v_typed v_noted v_at v_sort v_start v_value v_vanillaIn f_soonest f_told f_s) H → va_D A (w_X5_reckons E p_this p_text p_told p_draft p_s p_images p_kept p_notes p_held p_soonest v_trace v_typed v_noted v_at v_sort v_start v_value v_vanillaIn f_soonest f_told f_s) → va_S A s.heap H locs → W p l e (RM 3) s m args below meth c H locs 0 0 Q (F0 m 150 ls [.int k0]) := by
  obtain ⟨hx, hb, hml, hown, hts, hrt, hlk⟩ := id X
  intro H locs ls hl hP hD hS
  unfold f_X5_reckons_150 at hf
  refine lv_istore (lv' := [(9, .int k0), (0, .ref p_this), (1, .int x1), (4, .int x4), (5, .int x5), (6, .int x6), (7, .int x7), (8, .int x8)]) hx hb dX5_reckons_150 hl (by decide) rfl (fun ls hl => ?_)
  refine lv_aload_n hx hb dX5_reckons_152 rfl (lv_at hl 1 rfl) ?_
  refine gf_RX5_39 X hK hP 0 rfl rfl dX5_reckons_153 ?_
  refine lv_iload hx hb dX5_reckons_156 (lv_at hl 7 rfl) ?_
  refine lv_iload hx hb dX5_reckons_158 (lv_at hl 0 rfl) ?_
  refine lv_if_eq (tgt := 168) hx hb dX5_reckons_160 (by decide) (fun c_1 => ?_) (fun c_1 => ?_)
  · replace hf := ot c_1 hf
    refine lv_aload_n hx hb dX5_reckons_168 rfl (lv_at hl 1 rfl) ?_
    refine gf_RX5_39 X hK hP 0 rfl rfl dX5_reckons_169 ?_
    refine lv_iload hx hb dX5_reckons_172 (lv_at hl 7 rfl) ?_
    obtain ⟨g_2, hf⟩ := og hf
    refine iald X hK hP 1 rfl _ rfl g_2 dX5_reckons_174 ?_
    exact b_X5_reckons_175 E p_this p_text p_told p_draft p_s p_images p_kept p_notes p_held p_soonest v_trace v_typed v_noted v_at v_sort v_start v_value v_vanillaIn f_told f_s res X hK hA hret  K38 hK38 K54 hK54 f_soonest x1 x4 x5 x6 (f_soonest x8.toNatClampNeg) x8 hf H locs ls (lv_sub hl [1, 2, 3, 4, 5] rfl) hP hD hS
  · replace hf := of c_1 hf
    refine lv_iload hx hb dX5_reckons_163 (lv_at hl 6 rfl) ?_
    refine lv_goto (tgt := 175) hx hb dX5_reckons_165 (by decide) ?_
    exact b_X5_reckons_175 E p_this p_text p_told p_draft p_s p_images p_kept p_notes p_held p_soonest v_trace v_typed v_noted v_at v_sort v_start v_value v_vanillaIn f_told f_s res X hK hA hret  K38 hK38 K54 hK54 f_soonest x1 x4 x5 x6 x7 x8 hf H locs ls (lv_sub hl [1, 2, 3, 4, 5] rfl) hP hD hS

set_option maxHeartbeats 4000000 in
set_option maxRecDepth 100000 in
theorem b_X5_reckons_149 {p : Program} {l : Launch} {e : Env} {s : State} {m : MethodId} {args : Array Value} {below : List Frame} {meth : Method} {c : Code} {Q : State → Prop} {A : Nat → Prop} (E : Ev) (p_this : Nat) (p_text : Nat) (p_told : Nat) (p_draft : Nat) (p_s : Nat) (p_images : Nat) (p_kept : Nat) (p_notes : Nat) (p_held : Nat) (p_soonest : Nat) (v_trace : Int64) (v_typed : Int32) (v_noted : Int32) (v_at : Int32) (v_sort : Int32) (v_start : Int32) (v_value : Int32) (v_vanillaIn : Int32) (f_told : Nat → Int32) (f_s : Nat → Int32) (res : (Nat → Int32)) (X : Cx p s m args meth c cX5_reckons 10 RX5 none) (hK : KK E A s s.heap) (hA : ∀ q, s.heap.size ≤ q → A q) (hret : RetV p l e (RM 3) s m args below meth c Q E A cX5_reckons (w_X5_reckons E p_this p_text p_told p_draft p_s p_images p_kept p_notes p_held p_soonest v_trace v_typed v_noted v_at v_sort v_start v_value v_vanillaIn res f_told f_s)) (K38 : (Nat → Int32) → Int32 → Int32 → Int32 → Option ((Nat → Int32))) (hK38 : ∀ (f_soonest : Nat → Int32) (x1 : Int32) (x4 : Int32) (x5 : Int32), K38 f_soonest x1 x4 x5 = some res → ∀ (H : Heap) (locs : List Loc) (ls : Array Slot), lv_has ls 10 [(0, .ref p_this), (1, .int x1), (4, .int x4), (5, .int x5)] → va_P E.1 classes (w_X5_reckons E p_this p_text p_told p_draft p_s p_images p_kept p_notes p_held p_soonest v_trace v_typed v_noted v_at v_sort v_start v_value v_vanillaIn f_soonest f_told f_s) H → va_D A (w_X5_reckons E p_this p_text p_told p_draft p_s p_images p_kept p_notes p_held p_soonest v_trace v_typed v_noted v_at v_sort v_start v_value v_vanillaIn f_soonest f_told f_s) → va_S A s.heap H locs → W p l e (RM 3) s m args below meth c H locs 0 0 Q (F0 m 38 ls [])) (K54 : (Nat → Int32) → Int32 → Int32 → Int32 → Int32 → Option ((Nat → Int32))) (hK54 : ∀ (f_soonest : Nat → Int32) (x1 : Int32) (x4 : Int32) (x5 : Int32) (x6 : Int32), K54 f_soonest x1 x4 x5 x6 = some res → ∀ (H : Heap) (locs : List Loc) (ls : Array Slot), lv_has ls 10 [(0, .ref p_this), (1, .int x1), (4, .int x4), (5, .int x5), (6, .int x6)] → va_P E.1 classes (w_X5_reckons E p_this p_text p_told p_draft p_s p_images p_kept p_notes p_held p_soonest v_trace v_typed v_noted v_at v_sort v_start v_value v_vanillaIn f_soonest f_told f_s) H → va_D A (w_X5_reckons E p_this p_text p_told p_draft p_s p_images p_kept p_notes p_held p_soonest v_trace v_typed v_noted v_at v_sort v_start v_value v_vanillaIn f_soonest f_told f_s) → va_S A s.heap H locs → W p l e (RM 3) s m args below meth c H locs 0 0 Q (F0 m 54 ls [])) (f_soonest : Nat → Int32) (x1 : Int32) (x4 : Int32) (x5 : Int32) (x6 : Int32) (x7 : Int32) (x8 : Int32) (hf : f_X5_reckons_149 f_told f_s  K38 K54 f_soonest x1 x4 x5 x6 x7 x8 = some res) : ∀ (H : Heap) (locs : List Loc) (ls : Array Slot), lv_has ls 10 [(0, .ref p_this), (1, .int x1), (4, .int x4), (5, .int x5), (6, .int x6), (7, .int x7), (8, .int x8)] → va_P E.1 classes (w_X5_reckons E p_this p_text p_told p_draft p_s p_images p_kept p_notes p_held p_soonest v_trace v_typed v_noted v_at v_sort v_start v_value v_vanillaIn f_soonest f_told f_s) H → va_D A (w_X5_reckons E p_this p_text p_told p_draft p_s p_images p_kept p_notes p_held p_soonest v_trace v_typed v_noted v_at v_sort v_start v_value v_vanillaIn f_soonest f_told f_s) → va_S A s.heap H locs → W p l e (RM 3) s m args below meth c H locs 0 0 Q (F0 m 149 ls []) := by
  obtain ⟨hx, hb, hml, hown, hts, hrt, hlk⟩ := id X
  intro H locs ls hl hP hD hS
  unfold f_X5_reckons_149 at hf
  refine lv_iconst (v := (0 : Int32)) hx hb dX5_reckons_149 (by decide) ?_
  exact b_X5_reckons_150 E p_this p_text p_told p_draft p_s p_images p_kept p_notes p_held p_soonest v_trace v_typed v_noted v_at v_sort v_start v_value v_vanillaIn f_told f_s res X hK hA hret  K38 hK38 K54 hK54 f_soonest x1 x4 x5 x6 x7 x8 (0 : Int32) hf H locs ls (lv_sub hl [0, 1, 2, 3, 4, 5, 6] rfl) hP hD hS

set_option maxHeartbeats 4000000 in
set_option maxRecDepth 100000 in
theorem b_X5_reckons_145 {p : Program} {l : Launch} {e : Env} {s : State} {m : MethodId} {args : Array Value} {below : List Frame} {meth : Method} {c : Code} {Q : State → Prop} {A : Nat → Prop} (E : Ev) (p_this : Nat) (p_text : Nat) (p_told : Nat) (p_draft : Nat) (p_s : Nat) (p_images : Nat) (p_kept : Nat) (p_notes : Nat) (p_held : Nat) (p_soonest : Nat) (v_trace : Int64) (v_typed : Int32) (v_noted : Int32) (v_at : Int32) (v_sort : Int32) (v_start : Int32) (v_value : Int32) (v_vanillaIn : Int32) (f_told : Nat → Int32) (f_s : Nat → Int32) (res : (Nat → Int32)) (X : Cx p s m args meth c cX5_reckons 10 RX5 none) (hK : KK E A s s.heap) (hA : ∀ q, s.heap.size ≤ q → A q) (hret : RetV p l e (RM 3) s m args below meth c Q E A cX5_reckons (w_X5_reckons E p_this p_text p_told p_draft p_s p_images p_kept p_notes p_held p_soonest v_trace v_typed v_noted v_at v_sort v_start v_value v_vanillaIn res f_told f_s)) (K38 : (Nat → Int32) → Int32 → Int32 → Int32 → Option ((Nat → Int32))) (hK38 : ∀ (f_soonest : Nat → Int32) (x1 : Int32) (x4 : Int32) (x5 : Int32), K38 f_soonest x1 x4 x5 = some res → ∀ (H : Heap) (locs : List Loc) (ls : Array Slot), lv_has ls 10 [(0, .ref p_this), (1, .int x1), (4, .int x4), (5, .int x5)] → va_P E.1 classes (w_X5_reckons E p_this p_text p_told p_draft p_s p_images p_kept p_notes p_held p_soonest v_trace v_typed v_noted v_at v_sort v_start v_value v_vanillaIn f_soonest f_told f_s) H → va_D A (w_X5_reckons E p_this p_text p_told p_draft p_s p_images p_kept p_notes p_held p_soonest v_trace v_typed v_noted v_at v_sort v_start v_value v_vanillaIn f_soonest f_told f_s) → va_S A s.heap H locs → W p l e (RM 3) s m args below meth c H locs 0 0 Q (F0 m 38 ls [])) (K54 : (Nat → Int32) → Int32 → Int32 → Int32 → Int32 → Option ((Nat → Int32))) (hK54 : ∀ (f_soonest : Nat → Int32) (x1 : Int32) (x4 : Int32) (x5 : Int32) (x6 : Int32), K54 f_soonest x1 x4 x5 x6 = some res → ∀ (H : Heap) (locs : List Loc) (ls : Array Slot), lv_has ls 10 [(0, .ref p_this), (1, .int x1), (4, .int x4), (5, .int x5), (6, .int x6)] → va_P E.1 classes (w_X5_reckons E p_this p_text p_told p_draft p_s p_images p_kept p_notes p_held p_soonest v_trace v_typed v_noted v_at v_sort v_start v_value v_vanillaIn f_soonest f_told f_s) H → va_D A (w_X5_reckons E p_this p_text p_told p_draft p_s p_images p_kept p_notes p_held p_soonest v_trace v_typed v_noted v_at v_sort v_start v_value v_vanillaIn f_soonest f_told f_s) → va_S A s.heap H locs → W p l e (RM 3) s m args below meth c H locs 0 0 Q (F0 m 54 ls [])) (f_soonest : Nat → Int32) (x1 : Int32) (x4 : Int32) (x5 : Int32) (x6 : Int32) (x7 : Int32) (x8 : Int32) (hf : f_X5_reckons_145 f_told f_s  K38 K54 f_soonest x1 x4 x5 x6 x7 x8 = some res) : ∀ (H : Heap) (locs : List Loc) (ls : Array Slot), lv_has ls 10 [(0, .ref p_this), (1, .int x1), (4, .int x4), (5, .int x5), (6, .int x6), (7, .int x7), (8, .int x8)] → va_P E.1 classes (w_X5_reckons E p_this p_text p_told p_draft p_s p_images p_kept p_notes p_held p_soonest v_trace v_typed v_noted v_at v_sort v_start v_value v_vanillaIn f_soonest f_told f_s) H → va_D A (w_X5_reckons E p_this p_text p_told p_draft p_s p_images p_kept p_notes p_held p_soonest v_trace v_typed v_noted v_at v_sort v_start v_value v_vanillaIn f_soonest f_told f_s) → va_S A s.heap H locs → W p l e (RM 3) s m args below meth c H locs 0 0 Q (F0 m 145 ls []) := by
  obtain ⟨hx, hb, hml, hown, hts, hrt, hlk⟩ := id X
  intro H locs ls hl hP hD hS
  unfold f_X5_reckons_145 at hf
  refine lv_iconst (v := (1 : Int32)) hx hb dX5_reckons_145 (by decide) ?_
  refine lv_goto (tgt := 150) hx hb dX5_reckons_146 (by decide) ?_
  exact b_X5_reckons_150 E p_this p_text p_told p_draft p_s p_images p_kept p_notes p_held p_soonest v_trace v_typed v_noted v_at v_sort v_start v_value v_vanillaIn f_told f_s res X hK hA hret  K38 hK38 K54 hK54 f_soonest x1 x4 x5 x6 x7 x8 (1 : Int32) hf H locs ls (lv_sub hl [0, 1, 2, 3, 4, 5, 6] rfl) hP hD hS

set_option maxHeartbeats 4000000 in
set_option maxRecDepth 100000 in
theorem b_X5_reckons_54 {p : Program} {l : Launch} {e : Env} {s : State} {m : MethodId} {args : Array Value} {below : List Frame} {meth : Method} {c : Code} {Q : State → Prop} {A : Nat → Prop} (E : Ev) (p_this : Nat) (p_text : Nat) (p_told : Nat) (p_draft : Nat) (p_s : Nat) (p_images : Nat) (p_kept : Nat) (p_notes : Nat) (p_held : Nat) (p_soonest : Nat) (v_trace : Int64) (v_typed : Int32) (v_noted : Int32) (v_at : Int32) (v_sort : Int32) (v_start : Int32) (v_value : Int32) (v_vanillaIn : Int32) (f_told : Nat → Int32) (f_s : Nat → Int32) (res : (Nat → Int32)) (X : Cx p s m args meth c cX5_reckons 10 RX5 none) (hK : KK E A s s.heap) (hA : ∀ q, s.heap.size ≤ q → A q) (hret : RetV p l e (RM 3) s m args below meth c Q E A cX5_reckons (w_X5_reckons E p_this p_text p_told p_draft p_s p_images p_kept p_notes p_held p_soonest v_trace v_typed v_noted v_at v_sort v_start v_value v_vanillaIn res f_told f_s)) (K38 : (Nat → Int32) → Int32 → Int32 → Int32 → Option ((Nat → Int32))) (hK38 : ∀ (f_soonest : Nat → Int32) (x1 : Int32) (x4 : Int32) (x5 : Int32), K38 f_soonest x1 x4 x5 = some res → ∀ (H : Heap) (locs : List Loc) (ls : Array Slot), lv_has ls 10 [(0, .ref p_this), (1, .int x1), (4, .int x4), (5, .int x5)] → va_P E.1 classes (w_X5_reckons E p_this p_text p_told p_draft p_s p_images p_kept p_notes p_held p_soonest v_trace v_typed v_noted v_at v_sort v_start v_value v_vanillaIn f_soonest f_told f_s) H → va_D A (w_X5_reckons E p_this p_text p_told p_draft p_s p_images p_kept p_notes p_held p_soonest v_trace v_typed v_noted v_at v_sort v_start v_value v_vanillaIn f_soonest f_told f_s) → va_S A s.heap H locs → W p l e (RM 3) s m args below meth c H locs 0 0 Q (F0 m 38 ls [])) : ∀ (n : Nat) (f_soonest : Nat → Int32) (x1 : Int32) (x4 : Int32) (x5 : Int32) (x6 : Int32), f_X5_reckons_54 f_told f_s  K38 n f_soonest x1 x4 x5 x6 = some res → ∀ (H : Heap) (locs : List Loc) (ls : Array Slot), lv_has ls 10 [(0, .ref p_this), (1, .int x1), (4, .int x4), (5, .int x5), (6, .int x6)] → va_P E.1 classes (w_X5_reckons E p_this p_text p_told p_draft p_s p_images p_kept p_notes p_held p_soonest v_trace v_typed v_noted v_at v_sort v_start v_value v_vanillaIn f_soonest f_told f_s) H → va_D A (w_X5_reckons E p_this p_text p_told p_draft p_s p_images p_kept p_notes p_held p_soonest v_trace v_typed v_noted v_at v_sort v_start v_value v_vanillaIn f_soonest f_told f_s) → va_S A s.heap H locs → W p l e (RM 3) s m args below meth c H locs 0 0 Q (F0 m 54 ls []) := by
  obtain ⟨hx, hb, hml, hown, hts, hrt, hlk⟩ := id X
  intro n
  induction n with
  | zero => intro f_soonest x1 x4 x5 x6 hf; exact absurd hf (by simp [f_X5_reckons_54])
  | succ n ih =>
    intro f_soonest x1 x4 x5 x6 hf H locs ls hl hP hD hS
    unfold f_X5_reckons_54 at hf
    refine lv_iload hx hb dX5_reckons_54 (lv_at hl 4 rfl) ?_
    refine lv_aload_n hx hb dX5_reckons_56 rfl (lv_at hl 0 rfl) ?_
    refine gf_RX5_13 X hK hP 0 rfl rfl dX5_reckons_57 ?_
    refine lv_iconst (v := (1 : Int32)) hx hb dX5_reckons_60 (by decide) ?_
    refine iald X hK hP 2 rfl 1 (by decide) (by decide) dX5_reckons_61 ?_
    refine lv_icmp_ge (tgt := 182) hx hb dX5_reckons_62 (by decide) (fun c_2 => ?_) (fun c_2 => ?_)
    · replace hf := ot c_2 hf
      refine lv_iinc (v := (x5 + (1 : Int32))) (lv' := [(5, .int (x5 + (1 : Int32))), (0, .ref p_this), (1, .int x1), (4, .int x4), (6, .int x6)]) hx hb dX5_reckons_182 hl (k := 3) rfl rfl (by decide) rfl (fun ls hl => ?_)
      refine lv_goto (tgt := 38) hx hb dX5_reckons_185 (by decide) ?_
      exact hK38 f_soonest x1 x4 (x5 + (1 : Int32)) hf H locs ls (lv_sub hl [1, 2, 3, 0] rfl) hP hD hS
    · replace hf := of c_2 hf
      refine lv_aload_n hx hb dX5_reckons_65 rfl (lv_at hl 0 rfl) ?_
      refine gf_RX5_39 X hK hP 0 rfl rfl dX5_reckons_66 ?_
      refine lv_iload hx hb dX5_reckons_69 (lv_at hl 3 rfl) ?_
      obtain ⟨g_3, hf⟩ := og hf
      refine iald X hK hP 1 rfl _ rfl g_3 dX5_reckons_71 ?_
      refine lv_bipush (v := (-9 : Int32)) hx hb dX5_reckons_72 (by decide) ?_
      refine lv_icmp_eq (tgt := 176) hx hb dX5_reckons_74 (by decide) (fun c_4 => ?_) (fun c_4 => ?_)
      · replace hf := ot c_4 hf
        refine lv_iinc (v := (x6 + (1 : Int32))) (lv' := [(6, .int (x6 + (1 : Int32))), (0, .ref p_this), (1, .int x1), (4, .int x4), (5, .int x5)]) hx hb dX5_reckons_176 hl (k := 4) rfl rfl (by decide) rfl (fun ls hl => ?_)
        refine lv_goto (tgt := 54) hx hb dX5_reckons_179 (by decide) ?_
        exact ih f_soonest x1 x4 x5 (x6 + (1 : Int32)) hf H locs ls (lv_sub hl [1, 2, 3, 4, 0] rfl) hP hD hS
      · replace hf := of c_4 hf
        refine lv_iload hx hb dX5_reckons_77 (lv_at hl 3 rfl) ?_
        refine lv_iload hx hb dX5_reckons_79 (lv_at hl 4 rfl) ?_
        refine lv_ishr hx hb dX5_reckons_81 ?_
        refine lv_iconst (v := (1 : Int32)) hx hb dX5_reckons_82 (by decide) ?_
        refine lv_iand hx hb dX5_reckons_83 ?_
        refine lv_if_ne (tgt := 176) hx hb dX5_reckons_84 (by decide) (fun c_5 => ?_) (fun c_5 => ?_)
        · replace hf := of c_5 hf
          refine lv_iinc (v := (x6 + (1 : Int32))) (lv' := [(6, .int (x6 + (1 : Int32))), (0, .ref p_this), (1, .int x1), (4, .int x4), (5, .int x5)]) hx hb dX5_reckons_176 hl (k := 4) rfl rfl (by decide) rfl (fun ls hl => ?_)
          refine lv_goto (tgt := 54) hx hb dX5_reckons_179 (by decide) ?_
          exact ih f_soonest x1 x4 x5 (x6 + (1 : Int32)) hf H locs ls (lv_sub hl [1, 2, 3, 4, 0] rfl) hP hD hS
        · replace hf := ot c_5 hf
          refine lv_aload_n hx hb dX5_reckons_87 rfl (lv_at hl 0 rfl) ?_
          refine lv_iload hx hb dX5_reckons_88 (lv_at hl 4 rfl) ?_
          refine lv_iload_n hx hb dX5_reckons_90 rfl (lv_at hl 1 rfl) ?_
          refine lv_aload_n hx hb dX5_reckons_91 rfl (lv_at hl 0 rfl) ?_
          refine gf_RX5_39 X hK hP 0 rfl rfl dX5_reckons_92 ?_
          refine lv_iload hx hb dX5_reckons_95 (lv_at hl 3 rfl) ?_
          obtain ⟨g_6, hf⟩ := og hf
          refine iald X hK hP 1 rfl _ rfl g_6 dX5_reckons_97 ?_
          refine lv_iload hx hb dX5_reckons_98 (lv_at hl 2 rfl) ?_
          obtain ⟨u_7, hu_7, hf⟩ := ob hf
          refine pV X hK hA hP hS hl.1 (m_X5_doneBy (l := l) E p_this p_text p_told p_draft p_s p_images p_kept p_notes p_held p_soonest v_trace v_typed v_noted v_at v_sort v_start v_value v_vanillaIn f_told f_s x6 x1 (f_soonest x5.toNatClampNeg) x4 u_7 hu_7) kRX5_136 [0, 2, 3] rfl rfl rfl rfl ⟨⟨(Nat.le_of_ble_eq_true rfl), (Nat.le_of_ble_eq_true rfl)⟩, Nat.zero_le _, Nat.zero_le _⟩ rfl rfl (Nat.le_of_ble_eq_true rfl) dX5_reckons_100 (fun H locs hP hS => ?_)
          refine lv_istore (lv' := [(7, .int u_7), (0, .ref p_this), (1, .int x1), (4, .int x4), (5, .int x5), (6, .int x6)]) hx hb dX5_reckons_103 hl (by decide) rfl (fun ls hl => ?_)
          refine lv_iload hx hb dX5_reckons_105 (lv_at hl 4 rfl) ?_
          refine lv_iconst (v := (1 : Int32)) hx hb dX5_reckons_107 (by decide) ?_
          refine lv_iload hx hb dX5_reckons_108 (lv_at hl 5 rfl) ?_
          refine lv_ishl hx hb dX5_reckons_110 ?_
          refine lv_ior hx hb dX5_reckons_111 ?_
          refine lv_istore (lv' := [(8, .int (x5 ||| ((1 : Int32) <<< (x6 &&& 31)))), (7, .int u_7), (0, .ref p_this), (1, .int x1), (4, .int x4), (5, .int x5), (6, .int x6)]) hx hb dX5_reckons_112 hl (by decide) rfl (fun ls hl => ?_)
          refine lv_iload hx hb dX5_reckons_114 (lv_at hl 1 rfl) ?_
          refine lv_bipush (v := (-9 : Int32)) hx hb dX5_reckons_116 (by decide) ?_
          refine lv_icmp_eq (tgt := 149) hx hb dX5_reckons_118 (by decide) (fun c_8 => ?_) (fun c_8 => ?_)
          · replace hf := ot c_8 hf
            exact b_X5_reckons_149 E p_this p_text p_told p_draft p_s p_images p_kept p_notes p_held p_soonest v_trace v_typed v_noted v_at v_sort v_start v_value v_vanillaIn f_told f_s res X hK hA hret  K38 hK38 (f_X5_reckons_54 f_told f_s  K38 n) ih f_soonest x1 x4 x5 x6 u_7 (x5 ||| ((1 : Int32) <<< (x6 &&& 31))) hf H locs ls (lv_sub hl [2, 3, 4, 5, 6, 1, 0] rfl) hP hD hS
          · replace hf := of c_8 hf
            refine lv_aload_n hx hb dX5_reckons_121 rfl (lv_at hl 2 rfl) ?_
            refine gf_RX5_39 X hK hP 0 rfl rfl dX5_reckons_122 ?_
            refine lv_iload hx hb dX5_reckons_125 (lv_at hl 0 rfl) ?_
            obtain ⟨g_9, hf⟩ := og hf
            refine iald X hK hP 1 rfl _ rfl g_9 dX5_reckons_127 ?_
            refine lv_bipush (v := (-9 : Int32)) hx hb dX5_reckons_128 (by decide) ?_
            refine lv_icmp_eq (tgt := 145) hx hb dX5_reckons_130 (by decide) (fun c_10 => ?_) (fun c_10 => ?_)
            · replace hf := ot c_10 hf
              exact b_X5_reckons_145 E p_this p_text p_told p_draft p_s p_images p_kept p_notes p_held p_soonest v_trace v_typed v_noted v_at v_sort v_start v_value v_vanillaIn f_told f_s res X hK hA hret  K38 hK38 (f_X5_reckons_54 f_told f_s  K38 n) ih f_soonest x1 x4 x5 x6 u_7 (x5 ||| ((1 : Int32) <<< (x6 &&& 31))) hf H locs ls (lv_sub hl [2, 3, 4, 5, 6, 1, 0] rfl) hP hD hS
            · replace hf := of c_10 hf
              refine lv_iload hx hb dX5_reckons_133 (lv_at hl 1 rfl) ?_
              refine lv_aload_n hx hb dX5_reckons_135 rfl (lv_at hl 2 rfl) ?_
              refine gf_RX5_39 X hK hP 0 rfl rfl dX5_reckons_136 ?_
              refine lv_iload hx hb dX5_reckons_139 (lv_at hl 0 rfl) ?_
              obtain ⟨g_11, hf⟩ := og hf
              refine iald X hK hP 1 rfl _ rfl g_11 dX5_reckons_141 ?_
              refine lv_icmp_ge (tgt := 149) hx hb dX5_reckons_142 (by decide) (fun c_12 => ?_) (fun c_12 => ?_)
              · replace hf := ot c_12 hf
                exact b_X5_reckons_149 E p_this p_text p_told p_draft p_s p_images p_kept p_notes p_held p_soonest v_trace v_typed v_noted v_at v_sort v_start v_value v_vanillaIn f_told f_s res X hK hA hret  K38 hK38 (f_X5_reckons_54 f_told f_s  K38 n) ih f_soonest x1 x4 x5 x6 u_7 (x5 ||| ((1 : Int32) <<< (x6 &&& 31))) hf H locs ls (lv_sub hl [2, 3, 4, 5, 6, 1, 0] rfl) hP hD hS
              · replace hf := of c_12 hf
                exact b_X5_reckons_145 E p_this p_text p_told p_draft p_s p_images p_kept p_notes p_held p_soonest v_trace v_typed v_noted v_at v_sort v_start v_value v_vanillaIn f_told f_s res X hK hA hret  K38 hK38 (f_X5_reckons_54 f_told f_s  K38 n) ih f_soonest x1 x4 x5 x6 u_7 (x5 ||| ((1 : Int32) <<< (x6 &&& 31))) hf H locs ls (lv_sub hl [2, 3, 4, 5, 6, 1, 0] rfl) hP hD hS

set_option maxHeartbeats 4000000 in
set_option maxRecDepth 100000 in
theorem b_X5_reckons_38 {p : Program} {l : Launch} {e : Env} {s : State} {m : MethodId} {args : Array Value} {below : List Frame} {meth : Method} {c : Code} {Q : State → Prop} {A : Nat → Prop} (E : Ev) (p_this : Nat) (p_text : Nat) (p_told : Nat) (p_draft : Nat) (p_s : Nat) (p_images : Nat) (p_kept : Nat) (p_notes : Nat) (p_held : Nat) (p_soonest : Nat) (v_trace : Int64) (v_typed : Int32) (v_noted : Int32) (v_at : Int32) (v_sort : Int32) (v_start : Int32) (v_value : Int32) (v_vanillaIn : Int32) (f_told : Nat → Int32) (f_s : Nat → Int32) (res : (Nat → Int32)) (X : Cx p s m args meth c cX5_reckons 10 RX5 none) (hK : KK E A s s.heap) (hA : ∀ q, s.heap.size ≤ q → A q) (hret : RetV p l e (RM 3) s m args below meth c Q E A cX5_reckons (w_X5_reckons E p_this p_text p_told p_draft p_s p_images p_kept p_notes p_held p_soonest v_trace v_typed v_noted v_at v_sort v_start v_value v_vanillaIn res f_told f_s))  : ∀ (n : Nat) (f_soonest : Nat → Int32) (x1 : Int32) (x4 : Int32) (x5 : Int32), f_X5_reckons_38 f_told f_s   n f_soonest x1 x4 x5 = some res → ∀ (H : Heap) (locs : List Loc) (ls : Array Slot), lv_has ls 10 [(0, .ref p_this), (1, .int x1), (4, .int x4), (5, .int x5)] → va_P E.1 classes (w_X5_reckons E p_this p_text p_told p_draft p_s p_images p_kept p_notes p_held p_soonest v_trace v_typed v_noted v_at v_sort v_start v_value v_vanillaIn f_soonest f_told f_s) H → va_D A (w_X5_reckons E p_this p_text p_told p_draft p_s p_images p_kept p_notes p_held p_soonest v_trace v_typed v_noted v_at v_sort v_start v_value v_vanillaIn f_soonest f_told f_s) → va_S A s.heap H locs → W p l e (RM 3) s m args below meth c H locs 0 0 Q (F0 m 38 ls []) := by
  obtain ⟨hx, hb, hml, hown, hts, hrt, hlk⟩ := id X
  intro n
  induction n with
  | zero => intro f_soonest x1 x4 x5 hf; exact absurd hf (by simp [f_X5_reckons_38])
  | succ n ih =>
    intro f_soonest x1 x4 x5 hf H locs ls hl hP hD hS
    unfold f_X5_reckons_38 at hf
    refine lv_iload hx hb dX5_reckons_38 (lv_at hl 3 rfl) ?_
    refine lv_iconst (v := (1 : Int32)) hx hb dX5_reckons_40 (by decide) ?_
    refine lv_aload_n hx hb dX5_reckons_41 rfl (lv_at hl 0 rfl) ?_
    refine gf_RX5_13 X hK hP 0 rfl rfl dX5_reckons_42 ?_
    refine lv_iconst (v := (1 : Int32)) hx hb dX5_reckons_45 (by decide) ?_
    refine iald X hK hP 2 rfl 1 (by decide) (by decide) dX5_reckons_46 ?_
    refine lv_ishl hx hb dX5_reckons_47 ?_
    refine lv_icmp_ge (tgt := 188) hx hb dX5_reckons_48 (by decide) (fun c_2 => ?_) (fun c_2 => ?_)
    · replace hf := ot c_2 hf
      obtain rfl := Option.some.inj hf
      exact hret H locs _ ls hP hS dX5_reckons_188
    · replace hf := of c_2 hf
      refine lv_iconst (v := (0 : Int32)) hx hb dX5_reckons_51 (by decide) ?_
      refine lv_istore (lv' := [(6, .int (0 : Int32)), (0, .ref p_this), (1, .int x1), (4, .int x4), (5, .int x5)]) hx hb dX5_reckons_52 hl (by decide) rfl (fun ls hl => ?_)
      exact b_X5_reckons_54 E p_this p_text p_told p_draft p_s p_images p_kept p_notes p_held p_soonest v_trace v_typed v_noted v_at v_sort v_start v_value v_vanillaIn f_told f_s res X hK hA hret  (f_X5_reckons_38 f_told f_s   n) ih FU f_soonest x1 x4 x5 (0 : Int32) hf H locs ls (lv_sub hl [1, 2, 3, 4, 0] rfl) hP hD hS

set_option maxHeartbeats 4000000 in
set_option maxRecDepth 100000 in
theorem b_X5_reckons_28 {p : Program} {l : Launch} {e : Env} {s : State} {m : MethodId} {args : Array Value} {below : List Frame} {meth : Method} {c : Code} {Q : State → Prop} {A : Nat → Prop} (E : Ev) (p_this : Nat) (p_text : Nat) (p_told : Nat) (p_draft : Nat) (p_s : Nat) (p_images : Nat) (p_kept : Nat) (p_notes : Nat) (p_held : Nat) (p_soonest : Nat) (v_trace : Int64) (v_typed : Int32) (v_noted : Int32) (v_at : Int32) (v_sort : Int32) (v_start : Int32) (v_value : Int32) (v_vanillaIn : Int32) (f_told : Nat → Int32) (f_s : Nat → Int32) (res : (Nat → Int32)) (X : Cx p s m args meth c cX5_reckons 10 RX5 none) (hK : KK E A s s.heap) (hA : ∀ q, s.heap.size ≤ q → A q) (hret : RetV p l e (RM 3) s m args below meth c Q E A cX5_reckons (w_X5_reckons E p_this p_text p_told p_draft p_s p_images p_kept p_notes p_held p_soonest v_trace v_typed v_noted v_at v_sort v_start v_value v_vanillaIn res f_told f_s)) (K3 : (Nat → Int32) → Int32 → Int32 → Int32 → Int32 → Int32 → Option ((Nat → Int32))) (hK3 : ∀ (f_soonest : Nat → Int32) (x1 : Int32) (x2 : Int32) (x3 : Int32) (x4 : Int32) (x5 : Int32), K3 f_soonest x1 x2 x3 x4 x5 = some res → ∀ (H : Heap) (locs : List Loc) (ls : Array Slot), lv_has ls 10 [(0, .ref p_this), (1, .int x1), (2, .int x2), (3, .int x3), (4, .int x4), (5, .int x5)] → va_P E.1 classes (w_X5_reckons E p_this p_text p_told p_draft p_s p_images p_kept p_notes p_held p_soonest v_trace v_typed v_noted v_at v_sort v_start v_value v_vanillaIn f_soonest f_told f_s) H → va_D A (w_X5_reckons E p_this p_text p_told p_draft p_s p_images p_kept p_notes p_held p_soonest v_trace v_typed v_noted v_at v_sort v_start v_value v_vanillaIn f_soonest f_told f_s) → va_S A s.heap H locs → W p l e (RM 3) s m args below meth c H locs 0 0 Q (F0 m 3 ls [])) (f_soonest : Nat → Int32) (x1 : Int32) (x2 : Int32) (x3 : Int32) (x4 : Int32) (x5 : Int32) (k0 : Int32) (k1 : Int32) (hf : f_X5_reckons_28 f_told f_s  K3 f_soonest x1 x2 x3 x4 x5 k0 k1 = some res) : ∀ (H : Heap) (locs : List Loc) (ls : Array Slot), lv_has ls 10 [(0, .ref p_this), (1, .int x1), (2, .int x2), (3, .int x3), (4, .int x4), (5, .int x5)] → va_P E.1 classes (w_X5_reckons E p_this p_text p_told p_draft p_s p_images p_kept p_notes p_held p_soonest v_trace v_typed v_noted v_at v_sort v_start v_value v_vanillaIn f_soonest f_told f_s) H → va_D A (w_X5_reckons E p_this p_text p_told p_draft p_s p_images p_kept p_notes p_held p_soonest v_trace v_typed v_noted v_at v_sort v_start v_value v_vanillaIn f_soonest f_told f_s) → va_S A s.heap H locs → W p l e (RM 3) s m args below meth c H locs 0 0 Q (F0 m 28 ls [.int k0, .int k1, .ref p_soonest]) := by
  obtain ⟨hx, hb, hml, hown, hts, hrt, hlk⟩ := id X
  intro H locs ls hl hP hD hS
  unfold f_X5_reckons_28 at hf
  obtain ⟨g_1, hf⟩ := og hf
  refine iast X hK hP hD hS 1 rfl _ rfl g_1 dX5_reckons_28 (fun H locs hP hD hS => ?_)
  have hP : va_P E.1 classes (w_X5_reckons E p_this p_text p_told p_draft p_s p_images p_kept p_notes p_held p_soonest v_trace v_typed v_noted v_at v_sort v_start v_value v_vanillaIn (upd f_soonest k1.toNatClampNeg k0) f_told f_s) H := hP
  have hD : va_D A (w_X5_reckons E p_this p_text p_told p_draft p_s p_images p_kept p_notes p_held p_soonest v_trace v_typed v_noted v_at v_sort v_start v_value v_vanillaIn (upd f_soonest k1.toNatClampNeg k0) f_told f_s) := hD
  refine lv_iinc (v := (x5 + (1 : Int32))) (lv' := [(5, .int (x5 + (1 : Int32))), (0, .ref p_this), (1, .int x1), (2, .int x2), (3, .int x3), (4, .int x4)]) hx hb dX5_reckons_29 hl (k := 5) rfl rfl (by decide) rfl (fun ls hl => ?_)
  refine lv_goto (tgt := 3) hx hb dX5_reckons_32 (by decide) ?_
  exact hK3 (upd f_soonest k1.toNatClampNeg k0) x1 x2 x3 x4 (x5 + (1 : Int32)) hf H locs ls (lv_sub hl [1, 2, 3, 4, 5, 0] rfl) hP hD hS

set_option maxHeartbeats 4000000 in
set_option maxRecDepth 100000 in
theorem b_X5_reckons_3 {p : Program} {l : Launch} {e : Env} {s : State} {m : MethodId} {args : Array Value} {below : List Frame} {meth : Method} {c : Code} {Q : State → Prop} {A : Nat → Prop} (E : Ev) (p_this : Nat) (p_text : Nat) (p_told : Nat) (p_draft : Nat) (p_s : Nat) (p_images : Nat) (p_kept : Nat) (p_notes : Nat) (p_held : Nat) (p_soonest : Nat) (v_trace : Int64) (v_typed : Int32) (v_noted : Int32) (v_at : Int32) (v_sort : Int32) (v_start : Int32) (v_value : Int32) (v_vanillaIn : Int32) (f_told : Nat → Int32) (f_s : Nat → Int32) (res : (Nat → Int32)) (X : Cx p s m args meth c cX5_reckons 10 RX5 none) (hK : KK E A s s.heap) (hA : ∀ q, s.heap.size ≤ q → A q) (hret : RetV p l e (RM 3) s m args below meth c Q E A cX5_reckons (w_X5_reckons E p_this p_text p_told p_draft p_s p_images p_kept p_notes p_held p_soonest v_trace v_typed v_noted v_at v_sort v_start v_value v_vanillaIn res f_told f_s))  : ∀ (n : Nat) (f_soonest : Nat → Int32) (x1 : Int32) (x2 : Int32) (x3 : Int32) (x4 : Int32) (x5 : Int32), f_X5_reckons_3 f_told f_s   n f_soonest x1 x2 x3 x4 x5 = some res → ∀ (H : Heap) (locs : List Loc) (ls : Array Slot), lv_has ls 10 [(0, .ref p_this), (1, .int x1), (2, .int x2), (3, .int x3), (4, .int x4), (5, .int x5)] → va_P E.1 classes (w_X5_reckons E p_this p_text p_told p_draft p_s p_images p_kept p_notes p_held p_soonest v_trace v_typed v_noted v_at v_sort v_start v_value v_vanillaIn f_soonest f_told f_s) H → va_D A (w_X5_reckons E p_this p_text p_told p_draft p_s p_images p_kept p_notes p_held p_soonest v_trace v_typed v_noted v_at v_sort v_start v_value v_vanillaIn f_soonest f_told f_s) → va_S A s.heap H locs → W p l e (RM 3) s m args below meth c H locs 0 0 Q (F0 m 3 ls []) := by
  obtain ⟨hx, hb, hml, hown, hts, hrt, hlk⟩ := id X
  intro n
  induction n with
  | zero => intro f_soonest x1 x2 x3 x4 x5 hf; exact absurd hf (by simp [f_X5_reckons_3])
  | succ n ih =>
    intro f_soonest x1 x2 x3 x4 x5 hf H locs ls hl hP hD hS
    unfold f_X5_reckons_3 at hf
    refine lv_iload hx hb dX5_reckons_3 (lv_at hl 5 rfl) ?_
    refine lv_bipush (v := (64 : Int32)) hx hb dX5_reckons_5 (by decide) ?_
    refine lv_icmp_ge (tgt := 35) hx hb dX5_reckons_7 (by decide) (fun c_1 => ?_) (fun c_1 => ?_)
    · replace hf := ot c_1 hf
      refine lv_iload_n hx hb dX5_reckons_35 rfl (lv_at hl 2 rfl) ?_
      refine lv_istore (lv' := [(5, .int x2), (0, .ref p_this), (1, .int x1), (2, .int x2), (3, .int x3), (4, .int x4)]) hx hb dX5_reckons_36 hl (by decide) rfl (fun ls hl => ?_)
      exact b_X5_reckons_38 E p_this p_text p_told p_draft p_s p_images p_kept p_notes p_held p_soonest v_trace v_typed v_noted v_at v_sort v_start v_value v_vanillaIn f_told f_s res X hK hA hret   FU f_soonest x1 x4 x2 hf H locs ls (lv_sub hl [1, 2, 5, 0] rfl) hP hD hS
    · replace hf := of c_1 hf
      refine lv_aload_n hx hb dX5_reckons_10 rfl (lv_at hl 0 rfl) ?_
      refine gf_RX5_39 X hK hP 0 rfl rfl dX5_reckons_11 ?_
      refine lv_iload hx hb dX5_reckons_14 (lv_at hl 5 rfl) ?_
      refine lv_iload hx hb dX5_reckons_16 (lv_at hl 5 rfl) ?_
      refine lv_iload_n hx hb dX5_reckons_18 rfl (lv_at hl 2 rfl) ?_
      refine lv_icmp_ne (tgt := 26) hx hb dX5_reckons_19 (by decide) (fun c_2 => ?_) (fun c_2 => ?_)
      · replace hf := of c_2 hf
        refine lv_bipush (v := (-9 : Int32)) hx hb dX5_reckons_26 (by decide) ?_
        exact b_X5_reckons_28 E p_this p_text p_told p_draft p_s p_images p_kept p_notes p_held p_soonest v_trace v_typed v_noted v_at v_sort v_start v_value v_vanillaIn f_told f_s res X hK hA hret  (f_X5_reckons_3 f_told f_s   n) ih f_soonest x1 x2 x3 x4 x5 (-9 : Int32) x5 hf H locs ls (lv_sub hl [0, 1, 2, 3, 4, 5] rfl) hP hD hS
      · replace hf := ot c_2 hf
        refine lv_iload_n hx hb dX5_reckons_22 rfl (lv_at hl 3 rfl) ?_
        refine lv_goto (tgt := 28) hx hb dX5_reckons_23 (by decide) ?_
        exact b_X5_reckons_28 E p_this p_text p_told p_draft p_s p_images p_kept p_notes p_held p_soonest v_trace v_typed v_noted v_at v_sort v_start v_value v_vanillaIn f_told f_s res X hK hA hret  (f_X5_reckons_3 f_told f_s   n) ih f_soonest x1 x2 x3 x4 x5 x3 x5 hf H locs ls (lv_sub hl [0, 1, 2, 3, 4, 5] rfl) hP hD hS

set_option maxHeartbeats 4000000 in
set_option maxRecDepth 100000 in
theorem m_X5_reckons {l : Launch} (E : Ev) (p_this : Nat) (p_text : Nat) (p_told : Nat) (p_draft : Nat) (p_s : Nat) (p_images : Nat) (p_kept : Nat) (p_notes : Nat) (p_held : Nat) (p_soonest : Nat) (v_trace : Int64) (v_typed : Int32) (v_noted : Int32) (v_at : Int32) (v_sort : Int32) (v_start : Int32) (v_value : Int32) (v_vanillaIn : Int32) (f_soonest : Nat → Int32) (f_told : Nat → Int32) (f_s : Nat → Int32) (x1 : Int32) (x2 : Int32) (x3 : Int32) (x4 : Int32) (res : (Nat → Int32)) (hf : f_X5_reckons  f_told f_s f_soonest x1 x2 x3 x4 = some res) : MutV l E 3 yX5_reckons cX5_reckons 10 [.ref p_this, .int x1, .int x2, .int x3, .int x4] (w_X5_reckons E p_this p_text p_told p_draft p_s p_images p_kept p_notes p_held p_soonest v_trace v_typed v_noted v_at v_sort v_start v_value v_vanillaIn f_soonest f_told f_s) (w_X5_reckons E p_this p_text p_told p_draft p_s p_images p_kept p_notes p_held p_soonest v_trace v_typed v_noted v_at v_sort v_start v_value v_vanillaIn res f_told f_s) := by
  refine MutV.of (by decide) (Nat.le_of_ble_eq_true rfl) ?_
  intro p e s m args below meth c Q A X hK hA hret H locs ls hl hP hD hS
  obtain ⟨hx, hb, hml, hown, hts, hrt, hlk⟩ := id X
  have hl : lv_has ls 10 [(0, .ref p_this), (1, .int x1), (2, .int x2), (3, .int x3), (4, .int x4)] := hl
  unfold f_X5_reckons at hf
  refine lv_iconst (v := (0 : Int32)) hx hb dX5_reckons_0 (by decide) ?_
  refine lv_istore (lv' := [(5, .int (0 : Int32)), (0, .ref p_this), (1, .int x1), (2, .int x2), (3, .int x3), (4, .int x4)]) hx hb dX5_reckons_1 hl (by decide) rfl (fun ls hl => ?_)
  exact b_X5_reckons_3 E p_this p_text p_told p_draft p_s p_images p_kept p_notes p_held p_soonest v_trace v_typed v_noted v_at v_sort v_start v_value v_vanillaIn f_told f_s res X hK hA hret   FU f_soonest x1 x2 x3 x4 (0 : Int32) hf H locs ls (lv_sub hl [1, 2, 3, 4, 5, 0] rfl) hP hD hS

