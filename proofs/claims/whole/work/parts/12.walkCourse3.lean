abbrev w_X0_place (E : Ev) (p_this : Nat) (p_rows : Nat) (v_knownSteps : Int32) (f_rows : Nat → Int32) : va_W := [(p_this, .inr (0, [.ref p_rows, .int v_knownSteps])), (p_rows, .inl (E.2.1, 154, .inl f_rows))]
set_option maxHeartbeats 4000000 in
set_option maxRecDepth 100000 in
theorem m_X0_place {l : Launch} (E : Ev) (p_this : Nat) (p_rows : Nat) (v_knownSteps : Int32) (f_rows : Nat → Int32) (x1 : Int32) (res : Int32) (hf : f_X0_place  v_knownSteps f_rows x1 = some res) : PureI l E 2 yX0_place cX0_place 2 .int [.ref p_this, .int x1] (w_X0_place E p_this p_rows v_knownSteps f_rows) res := by
  refine PureI.of (by decide) (Nat.le_of_ble_eq_true rfl) ?_
  intro p e s m args below meth c Q A X hK hA hret H locs ls hl hP hS
  obtain ⟨hx, hb, hml, hown, hts, hrt, hlk⟩ := id X
  have hl : lv_has ls 2 [(0, .ref p_this), (1, .int x1)] := hl
  unfold f_X0_place at hf
  refine lv_iload_n hx hb dX0_place_0 rfl (lv_at hl 1 rfl) ?_
  obtain ⟨u_1, hu_1, hf⟩ := ob hf
  refine pS X hK hA hP hS hl.1 (m_X0_isPlace (l := l) E   x1 u_1 hu_1) kRX0_35 ⟨⟨(Nat.le_of_ble_eq_true rfl), (Nat.le_of_ble_eq_true rfl)⟩, Nat.zero_le _, Nat.zero_le _⟩ rfl rfl (Nat.le_of_ble_eq_true rfl) dX0_place_1 (fun H locs hP hS => ?_)
  refine lv_if_eq (tgt := 23) hx hb dX0_place_4 (by decide) (fun c_2 => ?_) (fun c_2 => ?_)
  · replace hf := ot c_2 hf
    refine lv_bipush (v := (-9 : Int32)) hx hb dX0_place_23 (by decide) ?_
    obtain rfl := Option.some.inj hf
    exact hret H locs _ ls rfl hP hS dX0_place_25
  · replace hf := of c_2 hf
    refine lv_aload_n hx hb dX0_place_7 rfl (lv_at hl 0 rfl) ?_
    refine gf_RX0_11 X hK hP 0 rfl rfl dX0_place_8 ?_
    refine lv_aload_n hx hb dX0_place_11 rfl (lv_at hl 0 rfl) ?_
    obtain ⟨u_3, hu_3, hf⟩ := ob hf
    refine pV X hK hA hP hS hl.1 (m_X0_base (l := l) E p_this p_rows v_knownSteps  u_3 hu_3) kRX0_28 [0] rfl rfl rfl rfl ⟨⟨(Nat.le_of_ble_eq_true rfl), (Nat.le_of_ble_eq_true rfl)⟩, Nat.zero_le _, Nat.zero_le _⟩ rfl rfl (Nat.le_of_ble_eq_true rfl) dX0_place_12 (fun H locs hP hS => ?_)
    refine lv_iconst (v := (2 : Int32)) hx hb dX0_place_15 (by decide) ?_
    refine lv_iadd hx hb dX0_place_16 ?_
    refine lv_iload_n hx hb dX0_place_17 rfl (lv_at hl 1 rfl) ?_
    refine lv_iadd hx hb dX0_place_18 ?_
    obtain ⟨g_4, hf⟩ := og hf
    refine iald X hK hP 1 rfl _ rfl g_4 dX0_place_19 ?_
    refine lv_goto (tgt := 25) hx hb dX0_place_20 (by decide) ?_
    obtain rfl := Option.some.inj hf
    exact hret H locs _ ls rfl hP hS dX0_place_25

abbrev w_X0_baked (E : Ev) (p_this : Nat) (p_rows : Nat) (v_knownSteps : Int32) (f_rows : Nat → Int32) : va_W := [(p_this, .inr (0, [.ref p_rows, .int v_knownSteps])), (p_rows, .inl (E.2.1, 154, .inl f_rows))]
set_option maxHeartbeats 4000000 in
set_option maxRecDepth 100000 in
theorem m_X0_baked {l : Launch} (E : Ev) (p_this : Nat) (p_rows : Nat) (v_knownSteps : Int32) (f_rows : Nat → Int32) (x1 : Int32) (res : Int32) (hf : f_X0_baked  v_knownSteps f_rows x1 = some res) : PureI l E 2 yX0_baked cX0_baked 2 .int [.ref p_this, .int x1] (w_X0_baked E p_this p_rows v_knownSteps f_rows) res := by
  refine PureI.of (by decide) (Nat.le_of_ble_eq_true rfl) ?_
  intro p e s m args below meth c Q A X hK hA hret H locs ls hl hP hS
  obtain ⟨hx, hb, hml, hown, hts, hrt, hlk⟩ := id X
  have hl : lv_has ls 2 [(0, .ref p_this), (1, .int x1)] := hl
  unfold f_X0_baked at hf
  refine lv_iload_n hx hb dX0_baked_0 rfl (lv_at hl 1 rfl) ?_
  obtain ⟨u_1, hu_1, hf⟩ := ob hf
  refine pS X hK hA hP hS hl.1 (m_X0_isPlace (l := l) E   x1 u_1 hu_1) kRX0_35 ⟨⟨(Nat.le_of_ble_eq_true rfl), (Nat.le_of_ble_eq_true rfl)⟩, Nat.zero_le _, Nat.zero_le _⟩ rfl rfl (Nat.le_of_ble_eq_true rfl) dX0_baked_1 (fun H locs hP hS => ?_)
  refine lv_if_eq (tgt := 24) hx hb dX0_baked_4 (by decide) (fun c_2 => ?_) (fun c_2 => ?_)
  · replace hf := ot c_2 hf
    refine lv_iconst (v := (0 : Int32)) hx hb dX0_baked_24 (by decide) ?_
    obtain rfl := Option.some.inj hf
    exact hret H locs _ ls rfl hP hS dX0_baked_25
  · replace hf := of c_2 hf
    refine lv_aload_n hx hb dX0_baked_7 rfl (lv_at hl 0 rfl) ?_
    refine gf_RX0_11 X hK hP 0 rfl rfl dX0_baked_8 ?_
    refine lv_aload_n hx hb dX0_baked_11 rfl (lv_at hl 0 rfl) ?_
    obtain ⟨u_3, hu_3, hf⟩ := ob hf
    refine pV X hK hA hP hS hl.1 (m_X0_base (l := l) E p_this p_rows v_knownSteps  u_3 hu_3) kRX0_28 [0] rfl rfl rfl rfl ⟨⟨(Nat.le_of_ble_eq_true rfl), (Nat.le_of_ble_eq_true rfl)⟩, Nat.zero_le _, Nat.zero_le _⟩ rfl rfl (Nat.le_of_ble_eq_true rfl) dX0_baked_12 (fun H locs hP hS => ?_)
    refine lv_bipush (v := (8 : Int32)) hx hb dX0_baked_15 (by decide) ?_
    refine lv_iadd hx hb dX0_baked_17 ?_
    refine lv_iload_n hx hb dX0_baked_18 rfl (lv_at hl 1 rfl) ?_
    refine lv_iadd hx hb dX0_baked_19 ?_
    obtain ⟨g_4, hf⟩ := og hf
    refine iald X hK hP 1 rfl _ rfl g_4 dX0_baked_20 ?_
    refine lv_goto (tgt := 25) hx hb dX0_baked_21 (by decide) ?_
    obtain rfl := Option.some.inj hf
    exact hret H locs _ ls rfl hP hS dX0_baked_25

abbrev w_X0_putIn (E : Ev) (p_this : Nat) (p_rows : Nat) (v_knownSteps : Int32) (f_rows : Nat → Int32) : va_W := [(p_this, .inr (0, [.ref p_rows, .int v_knownSteps])), (p_rows, .inl (E.2.1, 154, .inl f_rows))]
set_option maxHeartbeats 4000000 in
set_option maxRecDepth 100000 in
theorem m_X0_putIn {l : Launch} (E : Ev) (p_this : Nat) (p_rows : Nat) (v_knownSteps : Int32) (f_rows : Nat → Int32) (x1 : Int32) (x2 : Int32) (res : (Nat → Int32)) (hf : f_X0_putIn  v_knownSteps f_rows x1 x2 = some res) : MutV l E 2 yX0_putIn cX0_putIn 3 [.ref p_this, .int x1, .int x2] (w_X0_putIn E p_this p_rows v_knownSteps f_rows) (w_X0_putIn E p_this p_rows v_knownSteps res) := by
  refine MutV.of (by decide) (Nat.le_of_ble_eq_true rfl) ?_
  intro p e s m args below meth c Q A X hK hA hret H locs ls hl hP hD hS
  obtain ⟨hx, hb, hml, hown, hts, hrt, hlk⟩ := id X
  have hl : lv_has ls 3 [(0, .ref p_this), (1, .int x1), (2, .int x2)] := hl
  unfold f_X0_putIn at hf
  refine lv_iload_n hx hb dX0_putIn_0 rfl (lv_at hl 1 rfl) ?_
  obtain ⟨u_1, hu_1, hf⟩ := ob hf
  refine pS X hK hA hP hS hl.1 (m_X0_isPlace (l := l) E   x1 u_1 hu_1) kRX0_35 ⟨⟨(Nat.le_of_ble_eq_true rfl), (Nat.le_of_ble_eq_true rfl)⟩, Nat.zero_le _, Nat.zero_le _⟩ rfl rfl (Nat.le_of_ble_eq_true rfl) dX0_putIn_1 (fun H locs hP hS => ?_)
  refine lv_if_eq (tgt := 36) hx hb dX0_putIn_4 (by decide) (fun c_2 => ?_) (fun c_2 => ?_)
  · replace hf := ot c_2 hf
    obtain rfl := Option.some.inj hf
    exact hret H locs _ ls hP hS dX0_putIn_36
  · replace hf := of c_2 hf
    refine lv_aload_n hx hb dX0_putIn_7 rfl (lv_at hl 0 rfl) ?_
    refine gf_RX0_11 X hK hP 0 rfl rfl dX0_putIn_8 ?_
    refine lv_aload_n hx hb dX0_putIn_11 rfl (lv_at hl 0 rfl) ?_
    obtain ⟨u_3, hu_3, hf⟩ := ob hf
    refine pV X hK hA hP hS hl.1 (m_X0_base (l := l) E p_this p_rows v_knownSteps  u_3 hu_3) kRX0_28 [0] rfl rfl rfl rfl ⟨⟨(Nat.le_of_ble_eq_true rfl), (Nat.le_of_ble_eq_true rfl)⟩, Nat.zero_le _, Nat.zero_le _⟩ rfl rfl (Nat.le_of_ble_eq_true rfl) dX0_putIn_12 (fun H locs hP hS => ?_)
    refine lv_iconst (v := (2 : Int32)) hx hb dX0_putIn_15 (by decide) ?_
    refine lv_iadd hx hb dX0_putIn_16 ?_
    refine lv_iload_n hx hb dX0_putIn_17 rfl (lv_at hl 1 rfl) ?_
    refine lv_iadd hx hb dX0_putIn_18 ?_
    refine lv_iload_n hx hb dX0_putIn_19 rfl (lv_at hl 2 rfl) ?_
    obtain ⟨g_4, hf⟩ := og hf
    refine iast X hK hP hD hS 1 rfl _ rfl g_4 dX0_putIn_20 (fun H locs hP hD hS => ?_)
    have hP : va_P E.1 classes (w_X0_putIn E p_this p_rows v_knownSteps (upd f_rows ((u_3 + (2 : Int32)) + x1).toNatClampNeg x2)) H := hP
    have hD : va_D A (w_X0_putIn E p_this p_rows v_knownSteps (upd f_rows ((u_3 + (2 : Int32)) + x1).toNatClampNeg x2)) := hD
    refine lv_aload_n hx hb dX0_putIn_21 rfl (lv_at hl 0 rfl) ?_
    refine gf_RX0_11 X hK hP 0 rfl rfl dX0_putIn_22 ?_
    refine lv_aload_n hx hb dX0_putIn_25 rfl (lv_at hl 0 rfl) ?_
    obtain ⟨u_5, hu_5, hf⟩ := ob hf
    refine pV X hK hA hP hS hl.1 (m_X0_base (l := l) E p_this p_rows v_knownSteps  u_5 hu_5) kRX0_28 [0] rfl rfl rfl rfl ⟨⟨(Nat.le_of_ble_eq_true rfl), (Nat.le_of_ble_eq_true rfl)⟩, Nat.zero_le _, Nat.zero_le _⟩ rfl rfl (Nat.le_of_ble_eq_true rfl) dX0_putIn_26 (fun H locs hP hS => ?_)
    refine lv_bipush (v := (8 : Int32)) hx hb dX0_putIn_29 (by decide) ?_
    refine lv_iadd hx hb dX0_putIn_31 ?_
    refine lv_iload_n hx hb dX0_putIn_32 rfl (lv_at hl 1 rfl) ?_
    refine lv_iadd hx hb dX0_putIn_33 ?_
    refine lv_iconst (v := (0 : Int32)) hx hb dX0_putIn_34 (by decide) ?_
    obtain ⟨g_6, hf⟩ := og hf
    refine iast X hK hP hD hS 1 rfl _ rfl g_6 dX0_putIn_35 (fun H locs hP hD hS => ?_)
    have hP : va_P E.1 classes (w_X0_putIn E p_this p_rows v_knownSteps (upd (upd f_rows ((u_3 + (2 : Int32)) + x1).toNatClampNeg x2) ((u_5 + (8 : Int32)) + x1).toNatClampNeg (0 : Int32))) H := hP
    have hD : va_D A (w_X0_putIn E p_this p_rows v_knownSteps (upd (upd f_rows ((u_3 + (2 : Int32)) + x1).toNatClampNeg x2) ((u_5 + (8 : Int32)) + x1).toNatClampNeg (0 : Int32))) := hD
    obtain rfl := Option.some.inj hf
    exact hret H locs _ ls hP hS dX0_putIn_36

abbrev w_X0_placedAt (E : Ev) (p_this : Nat) (p_rows : Nat) (p_a1 : Nat) (p_a1_ovenNumbers : Nat) (p_a1_doughNumbers : Nat) (v_knownSteps : Int32) (v_a1_ovenCount : Int32) (v_a1_doughCount : Int32) (f_rows : Nat → Int32) : va_W := [(p_this, .inr (0, [.ref p_rows, .int v_knownSteps])), (p_a1, .inr (3, [.ref p_a1_ovenNumbers, .ref p_a1_doughNumbers, .int v_a1_ovenCount, .int v_a1_doughCount])), (p_rows, .inl (E.2.1, 154, .inl f_rows))]
set_option maxHeartbeats 4000000 in
set_option maxRecDepth 100000 in
theorem b_X0_placedAt_5 {p : Program} {l : Launch} {e : Env} {s : State} {m : MethodId} {args : Array Value} {below : List Frame} {meth : Method} {c : Code} {Q : State → Prop} {A : Nat → Prop} (E : Ev) (p_this : Nat) (p_rows : Nat) (p_a1 : Nat) (p_a1_ovenNumbers : Nat) (p_a1_doughNumbers : Nat) (v_knownSteps : Int32) (v_a1_ovenCount : Int32) (v_a1_doughCount : Int32) (f_rows : Nat → Int32) (res : Int32) (X : Cx p s m args meth c cX0_placedAt 5 RX0 (some .int)) (hK : KK E A s s.heap) (hA : ∀ q, s.heap.size ≤ q → A q) (hret : RetI p l e (RM 3) s m args below meth c Q E A cX0_placedAt .int (w_X0_placedAt E p_this p_rows p_a1 p_a1_ovenNumbers p_a1_doughNumbers v_knownSteps v_a1_ovenCount v_a1_doughCount f_rows) res)  : ∀ (n : Nat) (x2 : Int32) (x3 : Int32) (x4 : Int32), f_X0_placedAt_5 v_knownSteps v_a1_doughCount f_rows   n x2 x3 x4 = some res → ∀ (H : Heap) (locs : List Loc) (ls : Array Slot), lv_has ls 5 [(0, .ref p_this), (1, .ref p_a1), (2, .int x2), (3, .int x3), (4, .int x4)] → va_P E.1 classes (w_X0_placedAt E p_this p_rows p_a1 p_a1_ovenNumbers p_a1_doughNumbers v_knownSteps v_a1_ovenCount v_a1_doughCount f_rows) H → va_S A s.heap H locs → W p l e (RM 3) s m args below meth c H locs 0 0 Q (F0 m 5 ls []) := by
  obtain ⟨hx, hb, hml, hown, hts, hrt, hlk⟩ := id X
  intro n
  induction n with
  | zero => intro x2 x3 x4 hf; exact absurd hf (by simp [f_X0_placedAt_5])
  | succ n ih =>
    intro x2 x3 x4 hf H locs ls hl hP hS
    unfold f_X0_placedAt_5 at hf
    refine lv_iload hx hb dX0_placedAt_5 (lv_at hl 4 rfl) ?_
    refine lv_aload_n hx hb dX0_placedAt_7 rfl (lv_at hl 1 rfl) ?_
    obtain ⟨u_1, hu_1, hf⟩ := ob hf
    refine pV X hK hA hP hS hl.1 (m_X3_doughs (l := l) E p_a1 p_a1_ovenNumbers p_a1_doughNumbers v_a1_ovenCount v_a1_doughCount  u_1 hu_1) kRX0_39 [1] rfl rfl rfl rfl ⟨⟨(Nat.le_of_ble_eq_true rfl), (Nat.le_of_ble_eq_true rfl)⟩, Nat.zero_le _, Nat.zero_le _⟩ rfl rfl (Nat.le_of_ble_eq_true rfl) dX0_placedAt_8 (fun H locs hP hS => ?_)
    refine lv_icmp_ge (tgt := 37) hx hb dX0_placedAt_11 (by decide) (fun c_2 => ?_) (fun c_2 => ?_)
    · replace hf := ot c_2 hf
      refine lv_iload_n hx hb dX0_placedAt_37 rfl (lv_at hl 3 rfl) ?_
      obtain rfl := Option.some.inj hf
      exact hret H locs _ ls rfl hP hS dX0_placedAt_38
    · replace hf := of c_2 hf
      refine lv_aload_n hx hb dX0_placedAt_14 rfl (lv_at hl 0 rfl) ?_
      refine lv_iload hx hb dX0_placedAt_15 (lv_at hl 4 rfl) ?_
      obtain ⟨u_3, hu_3, hf⟩ := ob hf
      refine pV X hK hA hP hS hl.1 (m_X0_place (l := l) E p_this p_rows v_knownSteps f_rows x4 u_3 hu_3) kRX0_44 [0, 2] rfl rfl rfl rfl ⟨⟨(Nat.le_of_ble_eq_true rfl), (Nat.le_of_ble_eq_true rfl)⟩, Nat.zero_le _, Nat.zero_le _⟩ rfl rfl (Nat.le_of_ble_eq_true rfl) dX0_placedAt_17 (fun H locs hP hS => ?_)
      refine lv_iload_n hx hb dX0_placedAt_20 rfl (lv_at hl 2 rfl) ?_
      refine lv_icmp_ne (tgt := 31) hx hb dX0_placedAt_21 (by decide) (fun c_4 => ?_) (fun c_4 => ?_)
      · replace hf := of c_4 hf
        refine lv_iinc (v := (x4 + (1 : Int32))) (lv' := [(4, .int (x4 + (1 : Int32))), (0, .ref p_this), (1, .ref p_a1), (2, .int x2), (3, .int x3)]) hx hb dX0_placedAt_31 hl (k := 4) rfl rfl (by decide) rfl (fun ls hl => ?_)
        refine lv_goto (tgt := 5) hx hb dX0_placedAt_34 (by decide) ?_
        exact ih x2 x3 (x4 + (1 : Int32)) hf H locs ls (lv_sub hl [1, 2, 3, 4, 0] rfl) hP hS
      · replace hf := ot c_4 hf
        refine lv_iload_n hx hb dX0_placedAt_24 rfl (lv_at hl 3 rfl) ?_
        refine lv_iconst (v := (1 : Int32)) hx hb dX0_placedAt_25 (by decide) ?_
        refine lv_iload hx hb dX0_placedAt_26 (lv_at hl 4 rfl) ?_
        refine lv_ishl hx hb dX0_placedAt_28 ?_
        refine lv_ior hx hb dX0_placedAt_29 ?_
        refine lv_istore_n (lv' := [(3, .int (x3 ||| ((1 : Int32) <<< (x4 &&& 31)))), (0, .ref p_this), (1, .ref p_a1), (2, .int x2), (4, .int x4)]) hx hb dX0_placedAt_30 rfl hl (by decide) rfl (fun ls hl => ?_)
        refine lv_iinc (v := (x4 + (1 : Int32))) (lv' := [(4, .int (x4 + (1 : Int32))), (3, .int (x3 ||| ((1 : Int32) <<< (x4 &&& 31)))), (0, .ref p_this), (1, .ref p_a1), (2, .int x2)]) hx hb dX0_placedAt_31 hl (k := 4) rfl rfl (by decide) rfl (fun ls hl => ?_)
        refine lv_goto (tgt := 5) hx hb dX0_placedAt_34 (by decide) ?_
        exact ih x2 (x3 ||| ((1 : Int32) <<< (x4 &&& 31))) (x4 + (1 : Int32)) hf H locs ls (lv_sub hl [2, 3, 4, 1, 0] rfl) hP hS

set_option maxHeartbeats 4000000 in
set_option maxRecDepth 100000 in
theorem m_X0_placedAt {l : Launch} (E : Ev) (p_this : Nat) (p_rows : Nat) (p_a1 : Nat) (p_a1_ovenNumbers : Nat) (p_a1_doughNumbers : Nat) (v_knownSteps : Int32) (v_a1_ovenCount : Int32) (v_a1_doughCount : Int32) (f_rows : Nat → Int32) (x2 : Int32) (res : Int32) (hf : f_X0_placedAt  v_knownSteps v_a1_doughCount f_rows x2 = some res) : PureI l E 3 yX0_placedAt cX0_placedAt 5 .int [.ref p_this, .ref p_a1, .int x2] (w_X0_placedAt E p_this p_rows p_a1 p_a1_ovenNumbers p_a1_doughNumbers v_knownSteps v_a1_ovenCount v_a1_doughCount f_rows) res := by
  refine PureI.of (by decide) (Nat.le_of_ble_eq_true rfl) ?_
  intro p e s m args below meth c Q A X hK hA hret H locs ls hl hP hS
  obtain ⟨hx, hb, hml, hown, hts, hrt, hlk⟩ := id X
  have hl : lv_has ls 5 [(0, .ref p_this), (1, .ref p_a1), (2, .int x2)] := hl
  unfold f_X0_placedAt at hf
  refine lv_iconst (v := (0 : Int32)) hx hb dX0_placedAt_0 (by decide) ?_
  refine lv_istore_n (lv' := [(3, .int (0 : Int32)), (0, .ref p_this), (1, .ref p_a1), (2, .int x2)]) hx hb dX0_placedAt_1 rfl hl (by decide) rfl (fun ls hl => ?_)
  refine lv_iconst (v := (0 : Int32)) hx hb dX0_placedAt_2 (by decide) ?_
  refine lv_istore (lv' := [(4, .int (0 : Int32)), (3, .int (0 : Int32)), (0, .ref p_this), (1, .ref p_a1), (2, .int x2)]) hx hb dX0_placedAt_3 hl (by decide) rfl (fun ls hl => ?_)
  exact b_X0_placedAt_5 E p_this p_rows p_a1 p_a1_ovenNumbers p_a1_doughNumbers v_knownSteps v_a1_ovenCount v_a1_doughCount f_rows res X hK hA hret   FU x2 (0 : Int32) (0 : Int32) hf H locs ls (lv_sub hl [2, 3, 4, 1, 0] rfl) hP hS

abbrev w_X0_hot (E : Ev) (p_this : Nat) (p_rows : Nat) (p_a1 : Nat) (p_a1_ovenNumbers : Nat) (p_a1_doughNumbers : Nat) (v_knownSteps : Int32) (v_a1_ovenCount : Int32) (v_a1_doughCount : Int32) (f_rows : Nat → Int32) (f_a1_ovenNumbers : Nat → Int32) : va_W := [(p_this, .inr (0, [.ref p_rows, .int v_knownSteps])), (p_a1, .inr (3, [.ref p_a1_ovenNumbers, .ref p_a1_doughNumbers, .int v_a1_ovenCount, .int v_a1_doughCount])), (p_rows, .inl (E.2.1, 154, .inl f_rows)), (p_a1_ovenNumbers, .inl (E.2.1, 10, .inl f_a1_ovenNumbers))]
set_option maxHeartbeats 4000000 in
set_option maxRecDepth 100000 in
theorem m_X0_hot {l : Launch} (E : Ev) (p_this : Nat) (p_rows : Nat) (p_a1 : Nat) (p_a1_ovenNumbers : Nat) (p_a1_doughNumbers : Nat) (v_knownSteps : Int32) (v_a1_ovenCount : Int32) (v_a1_doughCount : Int32) (f_rows : Nat → Int32) (f_a1_ovenNumbers : Nat → Int32) (x2 : Int32) (res : Int32) (hf : f_X0_hot  v_knownSteps v_a1_ovenCount v_a1_doughCount f_rows f_a1_ovenNumbers x2 = some res) : PureI l E 4 yX0_hot cX0_hot 4 .int [.ref p_this, .ref p_a1, .int x2] (w_X0_hot E p_this p_rows p_a1 p_a1_ovenNumbers p_a1_doughNumbers v_knownSteps v_a1_ovenCount v_a1_doughCount f_rows f_a1_ovenNumbers) res := by
  refine PureI.of (by decide) (Nat.le_of_ble_eq_true rfl) ?_
  intro p e s m args below meth c Q A X hK hA hret H locs ls hl hP hS
  obtain ⟨hx, hb, hml, hown, hts, hrt, hlk⟩ := id X
  have hl : lv_has ls 4 [(0, .ref p_this), (1, .ref p_a1), (2, .int x2)] := hl
  unfold f_X0_hot at hf
  refine lv_aload_n hx hb dX0_hot_0 rfl (lv_at hl 0 rfl) ?_
  refine lv_aload_n hx hb dX0_hot_1 rfl (lv_at hl 1 rfl) ?_
  refine lv_iload_n hx hb dX0_hot_2 rfl (lv_at hl 2 rfl) ?_
  obtain ⟨u_1, hu_1, hf⟩ := ob hf
  refine pV X hK hA hP hS hl.1 (m_X0_placedAt (l := l) E p_this p_rows p_a1 p_a1_ovenNumbers p_a1_doughNumbers v_knownSteps v_a1_ovenCount v_a1_doughCount f_rows x2 u_1 hu_1) kRX0_48 [0, 1, 2] rfl rfl rfl rfl ⟨⟨(Nat.le_of_ble_eq_true rfl), (Nat.le_of_ble_eq_true rfl)⟩, Nat.zero_le _, Nat.zero_le _⟩ rfl rfl (Nat.le_of_ble_eq_true rfl) dX0_hot_3 (fun H locs hP hS => ?_)
  obtain ⟨u_2, hu_2, hf⟩ := ob hf
  refine pS X hK hA hP hS hl.1 (m_J6_bitCount_0f7a4 (l := l) E   u_1 u_2 hu_2) kRX0_52 ⟨⟨(Nat.le_of_ble_eq_true rfl), (Nat.le_of_ble_eq_true rfl)⟩, Nat.zero_le _, Nat.zero_le _⟩ rfl rfl (Nat.le_of_ble_eq_true rfl) dX0_hot_6 (fun H locs hP hS => ?_)
  refine lv_istore_n (lv' := [(3, .int u_2), (0, .ref p_this), (1, .ref p_a1), (2, .int x2)]) hx hb dX0_hot_9 rfl hl (by decide) rfl (fun ls hl => ?_)
  refine lv_aload_n hx hb dX0_hot_10 rfl (lv_at hl 2 rfl) ?_
  refine lv_iload_n hx hb dX0_hot_11 rfl (lv_at hl 3 rfl) ?_
  refine lv_iconst (v := (0 : Int32)) hx hb dX0_hot_12 (by decide) ?_
  obtain ⟨u_3, hu_3, hf⟩ := ob hf
  refine pV X hK hA hP hS hl.1 (m_X3_ofOven (l := l) E p_a1 p_a1_ovenNumbers p_a1_doughNumbers v_a1_ovenCount v_a1_doughCount f_a1_ovenNumbers x2 (0 : Int32) u_3 hu_3) kRX0_57 [1, 3] rfl rfl rfl rfl ⟨⟨(Nat.le_of_ble_eq_true rfl), (Nat.le_of_ble_eq_true rfl)⟩, Nat.zero_le _, Nat.zero_le _⟩ rfl rfl (Nat.le_of_ble_eq_true rfl) dX0_hot_13 (fun H locs hP hS => ?_)
  refine lv_bipush (v := (10 : Int32)) hx hb dX0_hot_16 (by decide) ?_
  refine lv_iload_n hx hb dX0_hot_18 rfl (lv_at hl 0 rfl) ?_
  refine lv_isub hx hb dX0_hot_19 ?_
  refine lv_imul hx hb dX0_hot_20 ?_
  refine lv_bipush (v := (10 : Int32)) hx hb dX0_hot_21 (by decide) ?_
  refine lv_idiv hx hb dX0_hot_23 (by decide) ?_
  obtain rfl := Option.some.inj hf
  exact hret H locs _ ls rfl hP hS dX0_hot_24

abbrev w_X0_passMinute (E : Ev) (p_this : Nat) (p_rows : Nat) (p_a1 : Nat) (p_a1_ovenNumbers : Nat) (p_a1_doughNumbers : Nat) (v_knownSteps : Int32) (v_a1_ovenCount : Int32) (v_a1_doughCount : Int32) (f_rows : Nat → Int32) (f_a1_ovenNumbers : Nat → Int32) (f_a1_doughNumbers : Nat → Int32) : va_W := [(p_this, .inr (0, [.ref p_rows, .int v_knownSteps])), (p_rows, .inl (E.2.1, 154, .inl f_rows)), (p_a1, .inr (3, [.ref p_a1_ovenNumbers, .ref p_a1_doughNumbers, .int v_a1_ovenCount, .int v_a1_doughCount])), (p_a1_ovenNumbers, .inl (E.2.1, 10, .inl f_a1_ovenNumbers)), (p_a1_doughNumbers, .inl (E.2.1, 30, .inl f_a1_doughNumbers))]
set_option maxHeartbeats 4000000 in
set_option maxRecDepth 100000 in
theorem b_X0_passMinute_72 {p : Program} {l : Launch} {e : Env} {s : State} {m : MethodId} {args : Array Value} {below : List Frame} {meth : Method} {c : Code} {Q : State → Prop} {A : Nat → Prop} (E : Ev) (p_this : Nat) (p_rows : Nat) (p_a1 : Nat) (p_a1_ovenNumbers : Nat) (p_a1_doughNumbers : Nat) (v_knownSteps : Int32) (v_a1_ovenCount : Int32) (v_a1_doughCount : Int32) (f_a1_ovenNumbers : Nat → Int32) (f_a1_doughNumbers : Nat → Int32) (res : (Nat → Int32)) (X : Cx p s m args meth c cX0_passMinute 3 RX0 none) (hK : KK E A s s.heap) (hA : ∀ q, s.heap.size ≤ q → A q) (hret : RetV p l e (RM 5) s m args below meth c Q E A cX0_passMinute (w_X0_passMinute E p_this p_rows p_a1 p_a1_ovenNumbers p_a1_doughNumbers v_knownSteps v_a1_ovenCount v_a1_doughCount res f_a1_ovenNumbers f_a1_doughNumbers))  : ∀ (n : Nat) (f_rows : Nat → Int32) (x2 : Int32), f_X0_passMinute_72 v_knownSteps v_a1_ovenCount v_a1_doughCount f_a1_ovenNumbers f_a1_doughNumbers   n f_rows x2 = some res → ∀ (H : Heap) (locs : List Loc) (ls : Array Slot), lv_has ls 3 [(0, .ref p_this), (1, .ref p_a1), (2, .int x2)] → va_P E.1 classes (w_X0_passMinute E p_this p_rows p_a1 p_a1_ovenNumbers p_a1_doughNumbers v_knownSteps v_a1_ovenCount v_a1_doughCount f_rows f_a1_ovenNumbers f_a1_doughNumbers) H → va_D A (w_X0_passMinute E p_this p_rows p_a1 p_a1_ovenNumbers p_a1_doughNumbers v_knownSteps v_a1_ovenCount v_a1_doughCount f_rows f_a1_ovenNumbers f_a1_doughNumbers) → va_S A s.heap H locs → W p l e (RM 5) s m args below meth c H locs 0 0 Q (F0 m 72 ls []) := by
  obtain ⟨hx, hb, hml, hown, hts, hrt, hlk⟩ := id X
  intro n
  induction n with
  | zero => intro f_rows x2 hf; exact absurd hf (by simp [f_X0_passMinute_72])
  | succ n ih =>
    intro f_rows x2 hf H locs ls hl hP hD hS
    unfold f_X0_passMinute_72 at hf
    refine lv_iload_n hx hb dX0_passMinute_72 rfl (lv_at hl 2 rfl) ?_
    refine lv_aload_n hx hb dX0_passMinute_73 rfl (lv_at hl 1 rfl) ?_
    obtain ⟨u_1, hu_1, hf⟩ := ob hf
    refine pV X hK hA hP hS hl.1 (m_X3_doughs (l := l) E p_a1 p_a1_ovenNumbers p_a1_doughNumbers v_a1_ovenCount v_a1_doughCount  u_1 hu_1) kRX0_39 [2] rfl rfl rfl rfl ⟨⟨(Nat.le_of_ble_eq_true rfl), (Nat.le_of_ble_eq_true rfl)⟩, Nat.zero_le _, Nat.zero_le _⟩ rfl rfl (Nat.le_of_ble_eq_true rfl) dX0_passMinute_74 (fun H locs hP hS => ?_)
    refine lv_icmp_ge (tgt := 127) hx hb dX0_passMinute_77 (by decide) (fun c_2 => ?_) (fun c_2 => ?_)
    · replace hf := ot c_2 hf
      obtain rfl := Option.some.inj hf
      exact hret H locs _ ls hP hS dX0_passMinute_127
    · replace hf := of c_2 hf
      refine lv_aload_n hx hb dX0_passMinute_80 rfl (lv_at hl 1 rfl) ?_
      refine lv_aload_n hx hb dX0_passMinute_81 rfl (lv_at hl 0 rfl) ?_
      refine lv_iload_n hx hb dX0_passMinute_82 rfl (lv_at hl 2 rfl) ?_
      obtain ⟨u_3, hu_3, hf⟩ := ob hf
      refine pV X hK hA hP hS hl.1 (m_X0_place (l := l) E p_this p_rows v_knownSteps f_rows x2 u_3 hu_3) kRX0_44 [0, 1] rfl rfl rfl rfl ⟨⟨(Nat.le_of_ble_eq_true rfl), (Nat.le_of_ble_eq_true rfl)⟩, Nat.zero_le _, Nat.zero_le _⟩ rfl rfl (Nat.le_of_ble_eq_true rfl) dX0_passMinute_83 (fun H locs hP hS => ?_)
      obtain ⟨u_4, hu_4, hf⟩ := ob hf
      refine pV X hK hA hP hS hl.1 (m_X3_hasOven (l := l) E p_a1 p_a1_ovenNumbers p_a1_doughNumbers v_a1_ovenCount v_a1_doughCount u_3 u_4 hu_4) kRX0_61 [2] rfl rfl rfl rfl ⟨⟨(Nat.le_of_ble_eq_true rfl), (Nat.le_of_ble_eq_true rfl)⟩, Nat.zero_le _, Nat.zero_le _⟩ rfl rfl (Nat.le_of_ble_eq_true rfl) dX0_passMinute_86 (fun H locs hP hS => ?_)
      refine lv_if_eq (tgt := 121) hx hb dX0_passMinute_89 (by decide) (fun c_5 => ?_) (fun c_5 => ?_)
      · replace hf := ot c_5 hf
        refine lv_iinc (v := (x2 + (1 : Int32))) (lv' := [(2, .int (x2 + (1 : Int32))), (0, .ref p_this), (1, .ref p_a1)]) hx hb dX0_passMinute_121 hl (k := 2) rfl rfl (by decide) rfl (fun ls hl => ?_)
        refine lv_goto (tgt := 72) hx hb dX0_passMinute_124 (by decide) ?_
        exact ih f_rows (x2 + (1 : Int32)) hf H locs ls (lv_sub hl [1, 2, 0] rfl) hP hD hS
      · replace hf := of c_5 hf
        refine lv_aload_n hx hb dX0_passMinute_92 rfl (lv_at hl 0 rfl) ?_
        refine lv_iload_n hx hb dX0_passMinute_93 rfl (lv_at hl 2 rfl) ?_
        obtain ⟨u_6, hu_6, hf⟩ := ob hf
        refine pV X hK hA hP hS hl.1 (m_X0_baked (l := l) E p_this p_rows v_knownSteps f_rows x2 u_6 hu_6) kRX0_67 [0, 1] rfl rfl rfl rfl ⟨⟨(Nat.le_of_ble_eq_true rfl), (Nat.le_of_ble_eq_true rfl)⟩, Nat.zero_le _, Nat.zero_le _⟩ rfl rfl (Nat.le_of_ble_eq_true rfl) dX0_passMinute_94 (fun H locs hP hS => ?_)
        refine lv_aload_n hx hb dX0_passMinute_97 rfl (lv_at hl 1 rfl) ?_
        refine lv_iload_n hx hb dX0_passMinute_98 rfl (lv_at hl 2 rfl) ?_
        refine lv_iconst (v := (2 : Int32)) hx hb dX0_passMinute_99 (by decide) ?_
        obtain ⟨u_7, hu_7, hf⟩ := ob hf
        refine pV X hK hA hP hS hl.1 (m_X3_ofDough (l := l) E p_a1 p_a1_ovenNumbers p_a1_doughNumbers v_a1_ovenCount v_a1_doughCount f_a1_doughNumbers x2 (2 : Int32) u_7 hu_7) kRX0_70 [2, 4] rfl rfl rfl rfl ⟨⟨(Nat.le_of_ble_eq_true rfl), (Nat.le_of_ble_eq_true rfl)⟩, Nat.zero_le _, Nat.zero_le _⟩ rfl rfl (Nat.le_of_ble_eq_true rfl) dX0_passMinute_100 (fun H locs hP hS => ?_)
        refine lv_icmp_lt (tgt := 121) hx hb dX0_passMinute_103 (by decide) (fun c_8 => ?_) (fun c_8 => ?_)
        · replace hf := ot c_8 hf
          refine lv_iinc (v := (x2 + (1 : Int32))) (lv' := [(2, .int (x2 + (1 : Int32))), (0, .ref p_this), (1, .ref p_a1)]) hx hb dX0_passMinute_121 hl (k := 2) rfl rfl (by decide) rfl (fun ls hl => ?_)
          refine lv_goto (tgt := 72) hx hb dX0_passMinute_124 (by decide) ?_
          exact ih f_rows (x2 + (1 : Int32)) hf H locs ls (lv_sub hl [1, 2, 0] rfl) hP hD hS
        · replace hf := of c_8 hf
          refine lv_aload_n hx hb dX0_passMinute_106 rfl (lv_at hl 0 rfl) ?_
          refine gf_RX0_11 X hK hP 0 rfl rfl dX0_passMinute_107 ?_
          refine lv_aload_n hx hb dX0_passMinute_110 rfl (lv_at hl 0 rfl) ?_
          obtain ⟨u_9, hu_9, hf⟩ := ob hf
          refine pV X hK hA hP hS hl.1 (m_X0_base (l := l) E p_this p_rows v_knownSteps  u_9 hu_9) kRX0_28 [0] rfl rfl rfl rfl ⟨⟨(Nat.le_of_ble_eq_true rfl), (Nat.le_of_ble_eq_true rfl)⟩, Nat.zero_le _, Nat.zero_le _⟩ rfl rfl (Nat.le_of_ble_eq_true rfl) dX0_passMinute_111 (fun H locs hP hS => ?_)
          refine lv_iconst (v := (2 : Int32)) hx hb dX0_passMinute_114 (by decide) ?_
          refine lv_iadd hx hb dX0_passMinute_115 ?_
          refine lv_iload_n hx hb dX0_passMinute_116 rfl (lv_at hl 2 rfl) ?_
          refine lv_iadd hx hb dX0_passMinute_117 ?_
          refine lv_bipush (v := (-5 : Int32)) hx hb dX0_passMinute_118 (by decide) ?_
          obtain ⟨g_10, hf⟩ := og hf
          refine iast X hK hP hD hS 1 rfl _ rfl g_10 dX0_passMinute_120 (fun H locs hP hD hS => ?_)
          have hP : va_P E.1 classes (w_X0_passMinute E p_this p_rows p_a1 p_a1_ovenNumbers p_a1_doughNumbers v_knownSteps v_a1_ovenCount v_a1_doughCount (upd f_rows ((u_9 + (2 : Int32)) + x2).toNatClampNeg (-5 : Int32)) f_a1_ovenNumbers f_a1_doughNumbers) H := hP
          have hD : va_D A (w_X0_passMinute E p_this p_rows p_a1 p_a1_ovenNumbers p_a1_doughNumbers v_knownSteps v_a1_ovenCount v_a1_doughCount (upd f_rows ((u_9 + (2 : Int32)) + x2).toNatClampNeg (-5 : Int32)) f_a1_ovenNumbers f_a1_doughNumbers) := hD
          refine lv_iinc (v := (x2 + (1 : Int32))) (lv' := [(2, .int (x2 + (1 : Int32))), (0, .ref p_this), (1, .ref p_a1)]) hx hb dX0_passMinute_121 hl (k := 2) rfl rfl (by decide) rfl (fun ls hl => ?_)
          refine lv_goto (tgt := 72) hx hb dX0_passMinute_124 (by decide) ?_
          exact ih (upd f_rows ((u_9 + (2 : Int32)) + x2).toNatClampNeg (-5 : Int32)) (x2 + (1 : Int32)) hf H locs ls (lv_sub hl [1, 2, 0] rfl) hP hD hS

set_option maxHeartbeats 4000000 in
set_option maxRecDepth 100000 in
theorem b_X0_passMinute_17 {p : Program} {l : Launch} {e : Env} {s : State} {m : MethodId} {args : Array Value} {below : List Frame} {meth : Method} {c : Code} {Q : State → Prop} {A : Nat → Prop} (E : Ev) (p_this : Nat) (p_rows : Nat) (p_a1 : Nat) (p_a1_ovenNumbers : Nat) (p_a1_doughNumbers : Nat) (v_knownSteps : Int32) (v_a1_ovenCount : Int32) (v_a1_doughCount : Int32) (f_a1_ovenNumbers : Nat → Int32) (f_a1_doughNumbers : Nat → Int32) (res : (Nat → Int32)) (X : Cx p s m args meth c cX0_passMinute 3 RX0 none) (hK : KK E A s s.heap) (hA : ∀ q, s.heap.size ≤ q → A q) (hret : RetV p l e (RM 5) s m args below meth c Q E A cX0_passMinute (w_X0_passMinute E p_this p_rows p_a1 p_a1_ovenNumbers p_a1_doughNumbers v_knownSteps v_a1_ovenCount v_a1_doughCount res f_a1_ovenNumbers f_a1_doughNumbers))  : ∀ (n : Nat) (f_rows : Nat → Int32) (x2 : Int32), f_X0_passMinute_17 v_knownSteps v_a1_ovenCount v_a1_doughCount f_a1_ovenNumbers f_a1_doughNumbers   n f_rows x2 = some res → ∀ (H : Heap) (locs : List Loc) (ls : Array Slot), lv_has ls 3 [(0, .ref p_this), (1, .ref p_a1), (2, .int x2)] → va_P E.1 classes (w_X0_passMinute E p_this p_rows p_a1 p_a1_ovenNumbers p_a1_doughNumbers v_knownSteps v_a1_ovenCount v_a1_doughCount f_rows f_a1_ovenNumbers f_a1_doughNumbers) H → va_D A (w_X0_passMinute E p_this p_rows p_a1 p_a1_ovenNumbers p_a1_doughNumbers v_knownSteps v_a1_ovenCount v_a1_doughCount f_rows f_a1_ovenNumbers f_a1_doughNumbers) → va_S A s.heap H locs → W p l e (RM 5) s m args below meth c H locs 0 0 Q (F0 m 17 ls []) := by
  obtain ⟨hx, hb, hml, hown, hts, hrt, hlk⟩ := id X
  intro n
  induction n with
  | zero => intro f_rows x2 hf; exact absurd hf (by simp [f_X0_passMinute_17])
  | succ n ih =>
    intro f_rows x2 hf H locs ls hl hP hD hS
    unfold f_X0_passMinute_17 at hf
    refine lv_iload_n hx hb dX0_passMinute_17 rfl (lv_at hl 2 rfl) ?_
    refine lv_aload_n hx hb dX0_passMinute_18 rfl (lv_at hl 1 rfl) ?_
    obtain ⟨u_1, hu_1, hf⟩ := ob hf
    refine pV X hK hA hP hS hl.1 (m_X3_doughs (l := l) E p_a1 p_a1_ovenNumbers p_a1_doughNumbers v_a1_ovenCount v_a1_doughCount  u_1 hu_1) kRX0_39 [2] rfl rfl rfl rfl ⟨⟨(Nat.le_of_ble_eq_true rfl), (Nat.le_of_ble_eq_true rfl)⟩, Nat.zero_le _, Nat.zero_le _⟩ rfl rfl (Nat.le_of_ble_eq_true rfl) dX0_passMinute_19 (fun H locs hP hS => ?_)
    refine lv_icmp_ge (tgt := 70) hx hb dX0_passMinute_22 (by decide) (fun c_2 => ?_) (fun c_2 => ?_)
    · replace hf := ot c_2 hf
      refine lv_iconst (v := (0 : Int32)) hx hb dX0_passMinute_70 (by decide) ?_
      refine lv_istore_n (lv' := [(2, .int (0 : Int32)), (0, .ref p_this), (1, .ref p_a1)]) hx hb dX0_passMinute_71 rfl hl (by decide) rfl (fun ls hl => ?_)
      exact b_X0_passMinute_72 E p_this p_rows p_a1 p_a1_ovenNumbers p_a1_doughNumbers v_knownSteps v_a1_ovenCount v_a1_doughCount f_a1_ovenNumbers f_a1_doughNumbers res X hK hA hret   FU f_rows (0 : Int32) hf H locs ls (lv_sub hl [1, 2, 0] rfl) hP hD hS
    · replace hf := of c_2 hf
      refine lv_aload_n hx hb dX0_passMinute_25 rfl (lv_at hl 1 rfl) ?_
      refine lv_aload_n hx hb dX0_passMinute_26 rfl (lv_at hl 0 rfl) ?_
      refine lv_iload_n hx hb dX0_passMinute_27 rfl (lv_at hl 2 rfl) ?_
      obtain ⟨u_3, hu_3, hf⟩ := ob hf
      refine pV X hK hA hP hS hl.1 (m_X0_place (l := l) E p_this p_rows v_knownSteps f_rows x2 u_3 hu_3) kRX0_44 [0, 1] rfl rfl rfl rfl ⟨⟨(Nat.le_of_ble_eq_true rfl), (Nat.le_of_ble_eq_true rfl)⟩, Nat.zero_le _, Nat.zero_le _⟩ rfl rfl (Nat.le_of_ble_eq_true rfl) dX0_passMinute_28 (fun H locs hP hS => ?_)
      obtain ⟨u_4, hu_4, hf⟩ := ob hf
      refine pV X hK hA hP hS hl.1 (m_X3_hasOven (l := l) E p_a1 p_a1_ovenNumbers p_a1_doughNumbers v_a1_ovenCount v_a1_doughCount u_3 u_4 hu_4) kRX0_61 [2] rfl rfl rfl rfl ⟨⟨(Nat.le_of_ble_eq_true rfl), (Nat.le_of_ble_eq_true rfl)⟩, Nat.zero_le _, Nat.zero_le _⟩ rfl rfl (Nat.le_of_ble_eq_true rfl) dX0_passMinute_31 (fun H locs hP hS => ?_)
      refine lv_if_eq (tgt := 64) hx hb dX0_passMinute_34 (by decide) (fun c_5 => ?_) (fun c_5 => ?_)
      · replace hf := ot c_5 hf
        refine lv_iinc (v := (x2 + (1 : Int32))) (lv' := [(2, .int (x2 + (1 : Int32))), (0, .ref p_this), (1, .ref p_a1)]) hx hb dX0_passMinute_64 hl (k := 2) rfl rfl (by decide) rfl (fun ls hl => ?_)
        refine lv_goto (tgt := 17) hx hb dX0_passMinute_67 (by decide) ?_
        exact ih f_rows (x2 + (1 : Int32)) hf H locs ls (lv_sub hl [1, 2, 0] rfl) hP hD hS
      · replace hf := of c_5 hf
        refine lv_aload_n hx hb dX0_passMinute_37 rfl (lv_at hl 0 rfl) ?_
        refine gf_RX0_11 X hK hP 0 rfl rfl dX0_passMinute_38 ?_
        refine lv_aload_n hx hb dX0_passMinute_41 rfl (lv_at hl 0 rfl) ?_
        obtain ⟨u_6, hu_6, hf⟩ := ob hf
        refine pV X hK hA hP hS hl.1 (m_X0_base (l := l) E p_this p_rows v_knownSteps  u_6 hu_6) kRX0_28 [0] rfl rfl rfl rfl ⟨⟨(Nat.le_of_ble_eq_true rfl), (Nat.le_of_ble_eq_true rfl)⟩, Nat.zero_le _, Nat.zero_le _⟩ rfl rfl (Nat.le_of_ble_eq_true rfl) dX0_passMinute_42 (fun H locs hP hS => ?_)
        refine lv_bipush (v := (8 : Int32)) hx hb dX0_passMinute_45 (by decide) ?_
        refine lv_iadd hx hb dX0_passMinute_47 ?_
        refine lv_iload_n hx hb dX0_passMinute_48 rfl (lv_at hl 2 rfl) ?_
        refine lv_iadd hx hb dX0_passMinute_49 ?_
        refine lv_dup2_11 hx hb dX0_passMinute_50 rfl rfl ?_
        obtain ⟨g_7, hf⟩ := og hf
        refine iald X hK hP 1 rfl _ rfl g_7 dX0_passMinute_51 ?_
        refine lv_aload_n hx hb dX0_passMinute_52 rfl (lv_at hl 0 rfl) ?_
        refine lv_aload_n hx hb dX0_passMinute_53 rfl (lv_at hl 1 rfl) ?_
        refine lv_aload_n hx hb dX0_passMinute_54 rfl (lv_at hl 0 rfl) ?_
        refine lv_iload_n hx hb dX0_passMinute_55 rfl (lv_at hl 2 rfl) ?_
        obtain ⟨u_8, hu_8, hf⟩ := ob hf
        refine pV X hK hA hP hS hl.1 (m_X0_place (l := l) E p_this p_rows v_knownSteps f_rows x2 u_8 hu_8) kRX0_44 [0, 1] rfl rfl rfl rfl ⟨⟨(Nat.le_of_ble_eq_true rfl), (Nat.le_of_ble_eq_true rfl)⟩, Nat.zero_le _, Nat.zero_le _⟩ rfl rfl (Nat.le_of_ble_eq_true rfl) dX0_passMinute_56 (fun H locs hP hS => ?_)
        obtain ⟨u_9, hu_9, hf⟩ := ob hf
        refine pV X hK hA hP hS hl.1 (m_X0_hot (l := l) E p_this p_rows p_a1 p_a1_ovenNumbers p_a1_doughNumbers v_knownSteps v_a1_ovenCount v_a1_doughCount f_rows f_a1_ovenNumbers u_8 u_9 hu_9) kRX0_64 [0, 2, 1, 3] rfl rfl rfl rfl ⟨⟨(Nat.le_of_ble_eq_true rfl), (Nat.le_of_ble_eq_true rfl)⟩, Nat.zero_le _, Nat.zero_le _⟩ rfl rfl (Nat.le_of_ble_eq_true rfl) dX0_passMinute_59 (fun H locs hP hS => ?_)
        refine lv_iadd hx hb dX0_passMinute_62 ?_
        obtain ⟨g_10, hf⟩ := og hf
        refine iast X hK hP hD hS 1 rfl _ rfl g_10 dX0_passMinute_63 (fun H locs hP hD hS => ?_)
        have hP : va_P E.1 classes (w_X0_passMinute E p_this p_rows p_a1 p_a1_ovenNumbers p_a1_doughNumbers v_knownSteps v_a1_ovenCount v_a1_doughCount (upd f_rows ((u_6 + (8 : Int32)) + x2).toNatClampNeg ((f_rows ((u_6 + (8 : Int32)) + x2).toNatClampNeg) + u_9)) f_a1_ovenNumbers f_a1_doughNumbers) H := hP
        have hD : va_D A (w_X0_passMinute E p_this p_rows p_a1 p_a1_ovenNumbers p_a1_doughNumbers v_knownSteps v_a1_ovenCount v_a1_doughCount (upd f_rows ((u_6 + (8 : Int32)) + x2).toNatClampNeg ((f_rows ((u_6 + (8 : Int32)) + x2).toNatClampNeg) + u_9)) f_a1_ovenNumbers f_a1_doughNumbers) := hD
        refine lv_iinc (v := (x2 + (1 : Int32))) (lv' := [(2, .int (x2 + (1 : Int32))), (0, .ref p_this), (1, .ref p_a1)]) hx hb dX0_passMinute_64 hl (k := 2) rfl rfl (by decide) rfl (fun ls hl => ?_)
        refine lv_goto (tgt := 17) hx hb dX0_passMinute_67 (by decide) ?_
        exact ih (upd f_rows ((u_6 + (8 : Int32)) + x2).toNatClampNeg ((f_rows ((u_6 + (8 : Int32)) + x2).toNatClampNeg) + u_9)) (x2 + (1 : Int32)) hf H locs ls (lv_sub hl [1, 2, 0] rfl) hP hD hS

set_option maxHeartbeats 4000000 in
set_option maxRecDepth 100000 in
theorem m_X0_passMinute {l : Launch} (E : Ev) (p_this : Nat) (p_rows : Nat) (p_a1 : Nat) (p_a1_ovenNumbers : Nat) (p_a1_doughNumbers : Nat) (v_knownSteps : Int32) (v_a1_ovenCount : Int32) (v_a1_doughCount : Int32) (f_rows : Nat → Int32) (f_a1_ovenNumbers : Nat → Int32) (f_a1_doughNumbers : Nat → Int32)  (res : (Nat → Int32)) (hf : f_X0_passMinute  v_knownSteps v_a1_ovenCount v_a1_doughCount f_a1_ovenNumbers f_a1_doughNumbers f_rows  = some res) : MutV l E 5 yX0_passMinute cX0_passMinute 3 [.ref p_this, .ref p_a1] (w_X0_passMinute E p_this p_rows p_a1 p_a1_ovenNumbers p_a1_doughNumbers v_knownSteps v_a1_ovenCount v_a1_doughCount f_rows f_a1_ovenNumbers f_a1_doughNumbers) (w_X0_passMinute E p_this p_rows p_a1 p_a1_ovenNumbers p_a1_doughNumbers v_knownSteps v_a1_ovenCount v_a1_doughCount res f_a1_ovenNumbers f_a1_doughNumbers) := by
  refine MutV.of (by decide) (Nat.le_of_ble_eq_true rfl) ?_
  intro p e s m args below meth c Q A X hK hA hret H locs ls hl hP hD hS
  obtain ⟨hx, hb, hml, hown, hts, hrt, hlk⟩ := id X
  have hl : lv_has ls 3 [(0, .ref p_this), (1, .ref p_a1)] := hl
  unfold f_X0_passMinute at hf
  refine lv_aload_n hx hb dX0_passMinute_0 rfl (lv_at hl 0 rfl) ?_
  refine gf_RX0_11 X hK hP 0 rfl rfl dX0_passMinute_1 ?_
  refine lv_aload_n hx hb dX0_passMinute_4 rfl (lv_at hl 0 rfl) ?_
  obtain ⟨u_1, hu_1, hf⟩ := ob hf
  refine pV X hK hA hP hS hl.1 (m_X0_base (l := l) E p_this p_rows v_knownSteps  u_1 hu_1) kRX0_28 [0] rfl rfl rfl rfl ⟨⟨(Nat.le_of_ble_eq_true rfl), (Nat.le_of_ble_eq_true rfl)⟩, Nat.zero_le _, Nat.zero_le _⟩ rfl rfl (Nat.le_of_ble_eq_true rfl) dX0_passMinute_5 (fun H locs hP hS => ?_)
  refine lv_iconst (v := (0 : Int32)) hx hb dX0_passMinute_8 (by decide) ?_
  refine lv_iadd hx hb dX0_passMinute_9 ?_
  refine lv_dup2_11 hx hb dX0_passMinute_10 rfl rfl ?_
  obtain ⟨g_2, hf⟩ := og hf
  refine iald X hK hP 1 rfl _ rfl g_2 dX0_passMinute_11 ?_
  refine lv_iconst (v := (1 : Int32)) hx hb dX0_passMinute_12 (by decide) ?_
  refine lv_iadd hx hb dX0_passMinute_13 ?_
  obtain ⟨g_3, hf⟩ := og hf
  refine iast X hK hP hD hS 1 rfl _ rfl g_3 dX0_passMinute_14 (fun H locs hP hD hS => ?_)
  have hP : va_P E.1 classes (w_X0_passMinute E p_this p_rows p_a1 p_a1_ovenNumbers p_a1_doughNumbers v_knownSteps v_a1_ovenCount v_a1_doughCount (upd f_rows (u_1 + (0 : Int32)).toNatClampNeg ((f_rows (u_1 + (0 : Int32)).toNatClampNeg) + (1 : Int32))) f_a1_ovenNumbers f_a1_doughNumbers) H := hP
  have hD : va_D A (w_X0_passMinute E p_this p_rows p_a1 p_a1_ovenNumbers p_a1_doughNumbers v_knownSteps v_a1_ovenCount v_a1_doughCount (upd f_rows (u_1 + (0 : Int32)).toNatClampNeg ((f_rows (u_1 + (0 : Int32)).toNatClampNeg) + (1 : Int32))) f_a1_ovenNumbers f_a1_doughNumbers) := hD
  refine lv_iconst (v := (0 : Int32)) hx hb dX0_passMinute_15 (by decide) ?_
  refine lv_istore_n (lv' := [(2, .int (0 : Int32)), (0, .ref p_this), (1, .ref p_a1)]) hx hb dX0_passMinute_16 rfl hl (by decide) rfl (fun ls hl => ?_)
  exact b_X0_passMinute_17 E p_this p_rows p_a1 p_a1_ovenNumbers p_a1_doughNumbers v_knownSteps v_a1_ovenCount v_a1_doughCount f_a1_ovenNumbers f_a1_doughNumbers res X hK hA hret   FU (upd f_rows (u_1 + (0 : Int32)).toNatClampNeg ((f_rows (u_1 + (0 : Int32)).toNatClampNeg) + (1 : Int32))) (0 : Int32) hf H locs ls (lv_sub hl [1, 2, 0] rfl) hP hD hS

