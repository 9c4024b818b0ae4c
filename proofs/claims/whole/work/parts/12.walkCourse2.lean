abbrev w_X0_known (E : Ev) (p_this : Nat) (p_rows : Nat) (v_knownSteps : Int32) : va_W := [(p_this, .inr (0, [.ref p_rows, .int v_knownSteps]))]
set_option maxHeartbeats 4000000 in
set_option maxRecDepth 100000 in
theorem m_X0_known {l : Launch} (E : Ev) (p_this : Nat) (p_rows : Nat) (v_knownSteps : Int32)  (res : Int32) (hf : f_X0_known  v_knownSteps  = some res) : PureI l E 1 yX0_known cX0_known 1 .int [.ref p_this] (w_X0_known E p_this p_rows v_knownSteps) res := by
  refine PureI.of (by decide) (Nat.le_of_ble_eq_true rfl) ?_
  intro p e s m args below meth c Q A X hK hA hret H locs ls hl hP hS
  obtain ⟨hx, hb, hml, hown, hts, hrt, hlk⟩ := id X
  have hl : lv_has ls 1 [(0, .ref p_this)] := hl
  unfold f_X0_known at hf
  refine lv_aload_n hx hb dX0_known_0 rfl (lv_at hl 0 rfl) ?_
  refine gf_RX0_18 X hK hP 0 rfl rfl dX0_known_1 ?_
  obtain rfl := Option.some.inj hf
  exact hret H locs _ ls rfl hP hS dX0_known_4

abbrev w_X0_minute (E : Ev) (p_this : Nat) (p_rows : Nat) (v_knownSteps : Int32) (f_rows : Nat → Int32) : va_W := [(p_this, .inr (0, [.ref p_rows, .int v_knownSteps])), (p_rows, .inl (E.2.1, 154, .inl f_rows))]
set_option maxHeartbeats 4000000 in
set_option maxRecDepth 100000 in
theorem m_X0_minute {l : Launch} (E : Ev) (p_this : Nat) (p_rows : Nat) (v_knownSteps : Int32) (f_rows : Nat → Int32)  (res : Int32) (hf : f_X0_minute  v_knownSteps f_rows  = some res) : PureI l E 2 yX0_minute cX0_minute 1 .int [.ref p_this] (w_X0_minute E p_this p_rows v_knownSteps f_rows) res := by
  refine PureI.of (by decide) (Nat.le_of_ble_eq_true rfl) ?_
  intro p e s m args below meth c Q A X hK hA hret H locs ls hl hP hS
  obtain ⟨hx, hb, hml, hown, hts, hrt, hlk⟩ := id X
  have hl : lv_has ls 1 [(0, .ref p_this)] := hl
  unfold f_X0_minute at hf
  refine lv_aload_n hx hb dX0_minute_0 rfl (lv_at hl 0 rfl) ?_
  refine gf_RX0_11 X hK hP 0 rfl rfl dX0_minute_1 ?_
  refine lv_aload_n hx hb dX0_minute_4 rfl (lv_at hl 0 rfl) ?_
  obtain ⟨u_1, hu_1, hf⟩ := ob hf
  refine pV X hK hA hP hS hl.1 (m_X0_base (l := l) E p_this p_rows v_knownSteps  u_1 hu_1) kRX0_28 [0] rfl rfl rfl rfl ⟨⟨(Nat.le_of_ble_eq_true rfl), (Nat.le_of_ble_eq_true rfl)⟩, Nat.zero_le _, Nat.zero_le _⟩ rfl rfl (Nat.le_of_ble_eq_true rfl) dX0_minute_5 (fun H locs hP hS => ?_)
  refine lv_iconst (v := (0 : Int32)) hx hb dX0_minute_8 (by decide) ?_
  refine lv_iadd hx hb dX0_minute_9 ?_
  obtain ⟨g_2, hf⟩ := og hf
  refine iald X hK hP 1 rfl _ rfl g_2 dX0_minute_10 ?_
  obtain rfl := Option.some.inj hf
  exact hret H locs _ ls rfl hP hS dX0_minute_11

abbrev w_X0_shutBits (E : Ev) (p_this : Nat) (p_rows : Nat) (v_knownSteps : Int32) (f_rows : Nat → Int32) : va_W := [(p_this, .inr (0, [.ref p_rows, .int v_knownSteps])), (p_rows, .inl (E.2.1, 154, .inl f_rows))]
set_option maxHeartbeats 4000000 in
set_option maxRecDepth 100000 in
theorem m_X0_shutBits {l : Launch} (E : Ev) (p_this : Nat) (p_rows : Nat) (v_knownSteps : Int32) (f_rows : Nat → Int32)  (res : Int32) (hf : f_X0_shutBits  v_knownSteps f_rows  = some res) : PureI l E 2 yX0_shutBits cX0_shutBits 1 .int [.ref p_this] (w_X0_shutBits E p_this p_rows v_knownSteps f_rows) res := by
  refine PureI.of (by decide) (Nat.le_of_ble_eq_true rfl) ?_
  intro p e s m args below meth c Q A X hK hA hret H locs ls hl hP hS
  obtain ⟨hx, hb, hml, hown, hts, hrt, hlk⟩ := id X
  have hl : lv_has ls 1 [(0, .ref p_this)] := hl
  unfold f_X0_shutBits at hf
  refine lv_aload_n hx hb dX0_shutBits_0 rfl (lv_at hl 0 rfl) ?_
  refine gf_RX0_11 X hK hP 0 rfl rfl dX0_shutBits_1 ?_
  refine lv_aload_n hx hb dX0_shutBits_4 rfl (lv_at hl 0 rfl) ?_
  obtain ⟨u_1, hu_1, hf⟩ := ob hf
  refine pV X hK hA hP hS hl.1 (m_X0_base (l := l) E p_this p_rows v_knownSteps  u_1 hu_1) kRX0_28 [0] rfl rfl rfl rfl ⟨⟨(Nat.le_of_ble_eq_true rfl), (Nat.le_of_ble_eq_true rfl)⟩, Nat.zero_le _, Nat.zero_le _⟩ rfl rfl (Nat.le_of_ble_eq_true rfl) dX0_shutBits_5 (fun H locs hP hS => ?_)
  refine lv_iconst (v := (1 : Int32)) hx hb dX0_shutBits_8 (by decide) ?_
  refine lv_iadd hx hb dX0_shutBits_9 ?_
  obtain ⟨g_2, hf⟩ := og hf
  refine iald X hK hP 1 rfl _ rfl g_2 dX0_shutBits_10 ?_
  obtain rfl := Option.some.inj hf
  exact hret H locs _ ls rfl hP hS dX0_shutBits_11

abbrev w_X0_isShut (E : Ev) (p_this : Nat) (p_rows : Nat) (v_knownSteps : Int32) (f_rows : Nat → Int32) : va_W := [(p_this, .inr (0, [.ref p_rows, .int v_knownSteps])), (p_rows, .inl (E.2.1, 154, .inl f_rows))]
set_option maxHeartbeats 4000000 in
set_option maxRecDepth 100000 in
theorem m_X0_isShut {l : Launch} (E : Ev) (p_this : Nat) (p_rows : Nat) (v_knownSteps : Int32) (f_rows : Nat → Int32) (x1 : Int32) (res : Int32) (hf : f_X0_isShut  v_knownSteps f_rows x1 = some res) : PureI l E 3 yX0_isShut cX0_isShut 2 .boolean [.ref p_this, .int x1] (w_X0_isShut E p_this p_rows v_knownSteps f_rows) res := by
  refine PureI.of (by decide) (Nat.le_of_ble_eq_true rfl) ?_
  intro p e s m args below meth c Q A X hK hA hret H locs ls hl hP hS
  obtain ⟨hx, hb, hml, hown, hts, hrt, hlk⟩ := id X
  have hl : lv_has ls 2 [(0, .ref p_this), (1, .int x1)] := hl
  unfold f_X0_isShut at hf
  refine lv_aload_n hx hb dX0_isShut_0 rfl (lv_at hl 0 rfl) ?_
  obtain ⟨u_1, hu_1, hf⟩ := ob hf
  refine pV X hK hA hP hS hl.1 (m_X0_shutBits (l := l) E p_this p_rows v_knownSteps f_rows  u_1 hu_1) kRX0_32 [0, 1] rfl rfl rfl rfl ⟨⟨(Nat.le_of_ble_eq_true rfl), (Nat.le_of_ble_eq_true rfl)⟩, Nat.zero_le _, Nat.zero_le _⟩ rfl rfl (Nat.le_of_ble_eq_true rfl) dX0_isShut_1 (fun H locs hP hS => ?_)
  refine lv_iconst (v := (1 : Int32)) hx hb dX0_isShut_4 (by decide) ?_
  refine lv_iload_n hx hb dX0_isShut_5 rfl (lv_at hl 1 rfl) ?_
  refine lv_ishl hx hb dX0_isShut_6 ?_
  refine lv_iand hx hb dX0_isShut_7 ?_
  refine lv_if_eq (tgt := 15) hx hb dX0_isShut_8 (by decide) (fun c_2 => ?_) (fun c_2 => ?_)
  · replace hf := ot c_2 hf
    refine lv_iconst (v := (0 : Int32)) hx hb dX0_isShut_15 (by decide) ?_
    obtain rfl := Option.some.inj hf
    exact hret H locs _ ls nar0 hP hS dX0_isShut_16
  · replace hf := of c_2 hf
    refine lv_iconst (v := (1 : Int32)) hx hb dX0_isShut_11 (by decide) ?_
    refine lv_goto (tgt := 16) hx hb dX0_isShut_12 (by decide) ?_
    obtain rfl := Option.some.inj hf
    exact hret H locs _ ls nar1 hP hS dX0_isShut_16

abbrev w_X0_turnDoor (E : Ev) (p_this : Nat) (p_rows : Nat) (v_knownSteps : Int32) (f_rows : Nat → Int32) : va_W := [(p_this, .inr (0, [.ref p_rows, .int v_knownSteps])), (p_rows, .inl (E.2.1, 154, .inl f_rows))]
set_option maxHeartbeats 4000000 in
set_option maxRecDepth 100000 in
theorem m_X0_turnDoor {l : Launch} (E : Ev) (p_this : Nat) (p_rows : Nat) (v_knownSteps : Int32) (f_rows : Nat → Int32) (x1 : Int32) (res : (Nat → Int32)) (hf : f_X0_turnDoor  v_knownSteps f_rows x1 = some res) : MutV l E 2 yX0_turnDoor cX0_turnDoor 2 [.ref p_this, .int x1] (w_X0_turnDoor E p_this p_rows v_knownSteps f_rows) (w_X0_turnDoor E p_this p_rows v_knownSteps res) := by
  refine MutV.of (by decide) (Nat.le_of_ble_eq_true rfl) ?_
  intro p e s m args below meth c Q A X hK hA hret H locs ls hl hP hD hS
  obtain ⟨hx, hb, hml, hown, hts, hrt, hlk⟩ := id X
  have hl : lv_has ls 2 [(0, .ref p_this), (1, .int x1)] := hl
  unfold f_X0_turnDoor at hf
  refine lv_aload_n hx hb dX0_turnDoor_0 rfl (lv_at hl 0 rfl) ?_
  refine gf_RX0_11 X hK hP 0 rfl rfl dX0_turnDoor_1 ?_
  refine lv_aload_n hx hb dX0_turnDoor_4 rfl (lv_at hl 0 rfl) ?_
  obtain ⟨u_1, hu_1, hf⟩ := ob hf
  refine pV X hK hA hP hS hl.1 (m_X0_base (l := l) E p_this p_rows v_knownSteps  u_1 hu_1) kRX0_28 [0] rfl rfl rfl rfl ⟨⟨(Nat.le_of_ble_eq_true rfl), (Nat.le_of_ble_eq_true rfl)⟩, Nat.zero_le _, Nat.zero_le _⟩ rfl rfl (Nat.le_of_ble_eq_true rfl) dX0_turnDoor_5 (fun H locs hP hS => ?_)
  refine lv_iconst (v := (1 : Int32)) hx hb dX0_turnDoor_8 (by decide) ?_
  refine lv_iadd hx hb dX0_turnDoor_9 ?_
  refine lv_dup2_11 hx hb dX0_turnDoor_10 rfl rfl ?_
  obtain ⟨g_2, hf⟩ := og hf
  refine iald X hK hP 1 rfl _ rfl g_2 dX0_turnDoor_11 ?_
  refine lv_iconst (v := (1 : Int32)) hx hb dX0_turnDoor_12 (by decide) ?_
  refine lv_iload_n hx hb dX0_turnDoor_13 rfl (lv_at hl 1 rfl) ?_
  refine lv_ishl hx hb dX0_turnDoor_14 ?_
  refine lv_ixor hx hb dX0_turnDoor_15 ?_
  obtain ⟨g_3, hf⟩ := og hf
  refine iast X hK hP hD hS 1 rfl _ rfl g_3 dX0_turnDoor_16 (fun H locs hP hD hS => ?_)
  have hP : va_P E.1 classes (w_X0_turnDoor E p_this p_rows v_knownSteps (upd f_rows (u_1 + (1 : Int32)).toNatClampNeg ((f_rows (u_1 + (1 : Int32)).toNatClampNeg) ^^^ ((1 : Int32) <<< (x1 &&& 31))))) H := hP
  have hD : va_D A (w_X0_turnDoor E p_this p_rows v_knownSteps (upd f_rows (u_1 + (1 : Int32)).toNatClampNeg ((f_rows (u_1 + (1 : Int32)).toNatClampNeg) ^^^ ((1 : Int32) <<< (x1 &&& 31))))) := hD
  obtain rfl := Option.some.inj hf
  exact hret H locs _ ls hP hS dX0_turnDoor_17

abbrev w_X0_isPlace (E : Ev)   : va_W := []
set_option maxHeartbeats 4000000 in
set_option maxRecDepth 100000 in
theorem m_X0_isPlace {l : Launch} (E : Ev)   (x0 : Int32) (res : Int32) (hf : f_X0_isPlace   x0 = some res) : PureI l E 1 yX0_isPlace cX0_isPlace 1 .boolean [.int x0] [] res := by
  refine PureI.of (by decide) (Nat.le_of_ble_eq_true rfl) ?_
  intro p e s m args below meth c Q A X hK hA hret H locs ls hl hP hS
  obtain ⟨hx, hb, hml, hown, hts, hrt, hlk⟩ := id X
  have hl : lv_has ls 1 [(0, .int x0)] := hl
  unfold f_X0_isPlace at hf
  refine lv_iload_n hx hb dX0_isPlace_0 rfl (lv_at hl 0 rfl) ?_
  refine lv_if_lt (tgt := 14) hx hb dX0_isPlace_1 (by decide) (fun c_1 => ?_) (fun c_1 => ?_)
  · replace hf := ot c_1 hf
    refine lv_iconst (v := (0 : Int32)) hx hb dX0_isPlace_14 (by decide) ?_
    obtain rfl := Option.some.inj hf
    exact hret H locs _ ls nar0 hP hS dX0_isPlace_15
  · replace hf := of c_1 hf
    refine lv_iload_n hx hb dX0_isPlace_4 rfl (lv_at hl 0 rfl) ?_
    refine lv_bipush (v := (6 : Int32)) hx hb dX0_isPlace_5 (by decide) ?_
    refine lv_icmp_ge (tgt := 14) hx hb dX0_isPlace_7 (by decide) (fun c_2 => ?_) (fun c_2 => ?_)
    · replace hf := ot c_2 hf
      refine lv_iconst (v := (0 : Int32)) hx hb dX0_isPlace_14 (by decide) ?_
      obtain rfl := Option.some.inj hf
      exact hret H locs _ ls nar0 hP hS dX0_isPlace_15
    · replace hf := of c_2 hf
      refine lv_iconst (v := (1 : Int32)) hx hb dX0_isPlace_10 (by decide) ?_
      refine lv_goto (tgt := 15) hx hb dX0_isPlace_11 (by decide) ?_
      obtain rfl := Option.some.inj hf
      exact hret H locs _ ls nar1 hP hS dX0_isPlace_15

