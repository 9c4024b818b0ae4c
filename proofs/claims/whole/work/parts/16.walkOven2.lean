abbrev w_X4_shuts (E : Ev) (p_this : Nat) (p_script : Nat) (p_told : Nat) (p_draft : Nat) (p_course : Nat) (p_trial : Nat) (p_imageZero : Nat) (p_imageOne : Nat) (p_ledDoughs : Nat) (p_ledOvens : Nat) (p_rowSearch : Nat) (p_told_ovenNumbers : Nat) (p_told_doughNumbers : Nat) (p_course_rows : Nat) (v_keptImages : Int32) (v_ledCount : Int32) (v_traceSum : Int64) (v_told_ovenCount : Int32) (v_told_doughCount : Int32) (v_course_knownSteps : Int32) (f_course_rows : Nat → Int32) : va_W := [(p_this, .inr (4, [.ref p_script, .ref p_told, .ref p_draft, .ref p_course, .ref p_trial, .ref p_imageZero, .ref p_imageOne, .int v_keptImages, .ref p_ledDoughs, .ref p_ledOvens, .int v_ledCount, .ref p_rowSearch, .long v_traceSum])), (p_told, .inr (3, [.ref p_told_ovenNumbers, .ref p_told_doughNumbers, .int v_told_ovenCount, .int v_told_doughCount])), (p_course, .inr (0, [.ref p_course_rows, .int v_course_knownSteps])), (p_course_rows, .inl (E.2.1, 154, .inl f_course_rows))]
set_option maxHeartbeats 4000000 in
set_option maxRecDepth 100000 in
theorem b_X4_shuts_40 {p : Program} {l : Launch} {e : Env} {s : State} {m : MethodId} {args : Array Value} {below : List Frame} {meth : Method} {c : Code} {Q : State → Prop} {A : Nat → Prop} (E : Ev) (p_this : Nat) (p_script : Nat) (p_told : Nat) (p_draft : Nat) (p_course : Nat) (p_trial : Nat) (p_imageZero : Nat) (p_imageOne : Nat) (p_ledDoughs : Nat) (p_ledOvens : Nat) (p_rowSearch : Nat) (p_told_ovenNumbers : Nat) (p_told_doughNumbers : Nat) (p_course_rows : Nat) (v_keptImages : Int32) (v_ledCount : Int32) (v_traceSum : Int64) (v_told_ovenCount : Int32) (v_told_doughCount : Int32) (res : Int32 × Int32 × (Nat → Int32)) (X : Cx p s m args meth c cX4_shuts 3 RX4 (some .int)) (hK : KK E A s s.heap) (hA : ∀ q, s.heap.size ≤ q → A q) (hret : RetI p l e (RM 4) s m args below meth c Q E A cX4_shuts .int (w_X4_shuts E p_this p_script p_told p_draft p_course p_trial p_imageZero p_imageOne p_ledDoughs p_ledOvens p_rowSearch p_told_ovenNumbers p_told_doughNumbers p_course_rows v_keptImages v_ledCount v_traceSum v_told_ovenCount v_told_doughCount res.2.1 res.2.2) res.1)  (v_course_knownSteps : Int32) (f_course_rows : Nat → Int32) (x1 : Int32) (k0 : Int32) (k1 : Int32) (hf : f_X4_shuts_40 v_told_ovenCount   v_course_knownSteps f_course_rows x1 k0 k1 = some res) : ∀ (H : Heap) (locs : List Loc) (ls : Array Slot), lv_has ls 3 [(0, .ref p_this), (1, .int x1)] → va_P E.1 classes (w_X4_shuts E p_this p_script p_told p_draft p_course p_trial p_imageZero p_imageOne p_ledDoughs p_ledOvens p_rowSearch p_told_ovenNumbers p_told_doughNumbers p_course_rows v_keptImages v_ledCount v_traceSum v_told_ovenCount v_told_doughCount v_course_knownSteps f_course_rows) H → va_D A (w_X4_shuts E p_this p_script p_told p_draft p_course p_trial p_imageZero p_imageOne p_ledDoughs p_ledOvens p_rowSearch p_told_ovenNumbers p_told_doughNumbers p_course_rows v_keptImages v_ledCount v_traceSum v_told_ovenCount v_told_doughCount v_course_knownSteps f_course_rows) → va_S A s.heap H locs → W p l e (RM 4) s m args below meth c H locs 0 0 Q (F0 m 40 ls [.int k0, .int k1]) := by
  obtain ⟨hx, hb, hml, hown, hts, hrt, hlk⟩ := id X
  intro H locs ls hl hP hD hS
  unfold f_X4_shuts_40 at hf
  refine lv_icmp_ne (tgt := 46) hx hb dX4_shuts_40 (by decide) (fun c_1 => ?_) (fun c_1 => ?_)
  · replace hf := of c_1 hf
    refine lv_aload_n hx hb dX4_shuts_46 rfl (lv_at hl 0 rfl) ?_
    refine gf_RX4_29 X hK hP 0 rfl rfl dX4_shuts_47 ?_
    obtain ⟨u_2, hu_2, hf⟩ := ob hf
    refine mVv X hK hA hP hD hS hl.1 (m_X0_remember (l := l) E p_course p_course_rows v_course_knownSteps f_course_rows  u_2 hu_2) kRX4_125 [2, 3] rfl rfl (by simp only [w_X0_remember, List.map]) rfl rfl rfl ⟨⟨(Nat.le_of_ble_eq_true rfl), (Nat.le_of_ble_eq_true rfl)⟩, Nat.zero_le _, Nat.zero_le _⟩ rfl rfl (Nat.le_of_ble_eq_true rfl) dX4_shuts_50 (fun H locs hP hD hS => ?_)
    have hP : va_P E.1 classes (w_X4_shuts E p_this p_script p_told p_draft p_course p_trial p_imageZero p_imageOne p_ledDoughs p_ledOvens p_rowSearch p_told_ovenNumbers p_told_doughNumbers p_course_rows v_keptImages v_ledCount v_traceSum v_told_ovenCount v_told_doughCount u_2.1 u_2.2) H := hP
    have hD : va_D A (w_X4_shuts E p_this p_script p_told p_draft p_course p_trial p_imageZero p_imageOne p_ledDoughs p_ledOvens p_rowSearch p_told_ovenNumbers p_told_doughNumbers p_course_rows v_keptImages v_ledCount v_traceSum v_told_ovenCount v_told_doughCount u_2.1 u_2.2) := hD
    refine lv_aload_n hx hb dX4_shuts_53 rfl (lv_at hl 0 rfl) ?_
    refine gf_RX4_29 X hK hP 0 rfl rfl dX4_shuts_54 ?_
    refine lv_iload_n hx hb dX4_shuts_57 rfl (lv_at hl 1 rfl) ?_
    obtain ⟨u_3, hu_3, hf⟩ := ob hf
    refine mVv X hK hA hP hD hS hl.1 (m_X0_turnDoor (l := l) E p_course p_course_rows u_2.1 u_2.2 x1 u_3 hu_3) kRX4_144 [2, 3] rfl rfl (by simp only [w_X0_turnDoor, List.map]) rfl rfl rfl ⟨⟨(Nat.le_of_ble_eq_true rfl), (Nat.le_of_ble_eq_true rfl)⟩, Nat.zero_le _, Nat.zero_le _⟩ rfl rfl (Nat.le_of_ble_eq_true rfl) dX4_shuts_58 (fun H locs hP hD hS => ?_)
    have hP : va_P E.1 classes (w_X4_shuts E p_this p_script p_told p_draft p_course p_trial p_imageZero p_imageOne p_ledDoughs p_ledOvens p_rowSearch p_told_ovenNumbers p_told_doughNumbers p_course_rows v_keptImages v_ledCount v_traceSum v_told_ovenCount v_told_doughCount u_2.1 u_3) H := hP
    have hD : va_D A (w_X4_shuts E p_this p_script p_told p_draft p_course p_trial p_imageZero p_imageOne p_ledDoughs p_ledOvens p_rowSearch p_told_ovenNumbers p_told_doughNumbers p_course_rows v_keptImages v_ledCount v_traceSum v_told_ovenCount v_told_doughCount u_2.1 u_3) := hD
    refine lv_aload_n hx hb dX4_shuts_61 rfl (lv_at hl 0 rfl) ?_
    refine gf_RX4_29 X hK hP 0 rfl rfl dX4_shuts_62 ?_
    obtain ⟨u_4, hu_4, hf⟩ := ob hf
    refine pV X hK hA hP hS hl.1 (m_X0_shutBits (l := l) E p_course p_course_rows u_2.1 u_3  u_4 hu_4) kRX4_148 [2, 3] rfl rfl rfl rfl ⟨⟨(Nat.le_of_ble_eq_true rfl), (Nat.le_of_ble_eq_true rfl)⟩, Nat.zero_le _, Nat.zero_le _⟩ rfl rfl (Nat.le_of_ble_eq_true rfl) dX4_shuts_65 (fun H locs hP hS => ?_)
    obtain ⟨u_5, hu_5, hf⟩ := ob hf
    refine pS X hK hA hP hS hl.1 (m_J6_bitCount_0f7a4 (l := l) E   u_4 u_5 hu_5) kRX4_132 ⟨⟨(Nat.le_of_ble_eq_true rfl), (Nat.le_of_ble_eq_true rfl)⟩, Nat.zero_le _, Nat.zero_le _⟩ rfl rfl (Nat.le_of_ble_eq_true rfl) dX4_shuts_68 (fun H locs hP hS => ?_)
    obtain rfl := Option.some.inj hf
    exact hret H locs _ ls rfl hP hS dX4_shuts_71
  · replace hf := ot c_1 hf
    refine lv_bipush (v := (-2 : Int32)) hx hb dX4_shuts_43 (by decide) ?_
    obtain rfl := Option.some.inj hf
    exact hret H locs _ ls rfl hP hS dX4_shuts_45

set_option maxHeartbeats 4000000 in
set_option maxRecDepth 100000 in
theorem b_X4_shuts_22 {p : Program} {l : Launch} {e : Env} {s : State} {m : MethodId} {args : Array Value} {below : List Frame} {meth : Method} {c : Code} {Q : State → Prop} {A : Nat → Prop} (E : Ev) (p_this : Nat) (p_script : Nat) (p_told : Nat) (p_draft : Nat) (p_course : Nat) (p_trial : Nat) (p_imageZero : Nat) (p_imageOne : Nat) (p_ledDoughs : Nat) (p_ledOvens : Nat) (p_rowSearch : Nat) (p_told_ovenNumbers : Nat) (p_told_doughNumbers : Nat) (p_course_rows : Nat) (v_keptImages : Int32) (v_ledCount : Int32) (v_traceSum : Int64) (v_told_ovenCount : Int32) (v_told_doughCount : Int32) (res : Int32 × Int32 × (Nat → Int32)) (X : Cx p s m args meth c cX4_shuts 3 RX4 (some .int)) (hK : KK E A s s.heap) (hA : ∀ q, s.heap.size ≤ q → A q) (hret : RetI p l e (RM 4) s m args below meth c Q E A cX4_shuts .int (w_X4_shuts E p_this p_script p_told p_draft p_course p_trial p_imageZero p_imageOne p_ledDoughs p_ledOvens p_rowSearch p_told_ovenNumbers p_told_doughNumbers p_course_rows v_keptImages v_ledCount v_traceSum v_told_ovenCount v_told_doughCount res.2.1 res.2.2) res.1)  (v_course_knownSteps : Int32) (f_course_rows : Nat → Int32) (x1 : Int32) (x2 : Int32) (hf : f_X4_shuts_22 v_told_ovenCount   v_course_knownSteps f_course_rows x1 x2 = some res) : ∀ (H : Heap) (locs : List Loc) (ls : Array Slot), lv_has ls 3 [(0, .ref p_this), (1, .int x1), (2, .int x2)] → va_P E.1 classes (w_X4_shuts E p_this p_script p_told p_draft p_course p_trial p_imageZero p_imageOne p_ledDoughs p_ledOvens p_rowSearch p_told_ovenNumbers p_told_doughNumbers p_course_rows v_keptImages v_ledCount v_traceSum v_told_ovenCount v_told_doughCount v_course_knownSteps f_course_rows) H → va_D A (w_X4_shuts E p_this p_script p_told p_draft p_course p_trial p_imageZero p_imageOne p_ledDoughs p_ledOvens p_rowSearch p_told_ovenNumbers p_told_doughNumbers p_course_rows v_keptImages v_ledCount v_traceSum v_told_ovenCount v_told_doughCount v_course_knownSteps f_course_rows) → va_S A s.heap H locs → W p l e (RM 4) s m args below meth c H locs 0 0 Q (F0 m 22 ls []) := by
  obtain ⟨hx, hb, hml, hown, hts, hrt, hlk⟩ := id X
  intro H locs ls hl hP hD hS
  unfold f_X4_shuts_22 at hf
  refine lv_aload_n hx hb dX4_shuts_22 rfl (lv_at hl 0 rfl) ?_
  refine gf_RX4_29 X hK hP 0 rfl rfl dX4_shuts_23 ?_
  refine lv_iload_n hx hb dX4_shuts_26 rfl (lv_at hl 1 rfl) ?_
  obtain ⟨u_1, hu_1, hf⟩ := ob hf
  refine pV X hK hA hP hS hl.1 (m_X0_isShut (l := l) E p_course p_course_rows v_course_knownSteps f_course_rows x1 u_1 hu_1) kRX4_96 [2, 3] rfl rfl rfl rfl ⟨⟨(Nat.le_of_ble_eq_true rfl), (Nat.le_of_ble_eq_true rfl)⟩, Nat.zero_le _, Nat.zero_le _⟩ rfl rfl (Nat.le_of_ble_eq_true rfl) dX4_shuts_27 (fun H locs hP hS => ?_)
  refine lv_iload_n hx hb dX4_shuts_30 rfl (lv_at hl 2 rfl) ?_
  refine lv_iconst (v := (1 : Int32)) hx hb dX4_shuts_31 (by decide) ?_
  refine lv_icmp_ne (tgt := 39) hx hb dX4_shuts_32 (by decide) (fun c_2 => ?_) (fun c_2 => ?_)
  · replace hf := of c_2 hf
    refine lv_iconst (v := (0 : Int32)) hx hb dX4_shuts_39 (by decide) ?_
    exact b_X4_shuts_40 E p_this p_script p_told p_draft p_course p_trial p_imageZero p_imageOne p_ledDoughs p_ledOvens p_rowSearch p_told_ovenNumbers p_told_doughNumbers p_course_rows v_keptImages v_ledCount v_traceSum v_told_ovenCount v_told_doughCount res X hK hA hret   v_course_knownSteps f_course_rows x1 (0 : Int32) u_1 hf H locs ls (lv_sub hl [0, 1] rfl) hP hD hS
  · replace hf := ot c_2 hf
    refine lv_iconst (v := (1 : Int32)) hx hb dX4_shuts_35 (by decide) ?_
    refine lv_goto (tgt := 40) hx hb dX4_shuts_36 (by decide) ?_
    exact b_X4_shuts_40 E p_this p_script p_told p_draft p_course p_trial p_imageZero p_imageOne p_ledDoughs p_ledOvens p_rowSearch p_told_ovenNumbers p_told_doughNumbers p_course_rows v_keptImages v_ledCount v_traceSum v_told_ovenCount v_told_doughCount res X hK hA hret   v_course_knownSteps f_course_rows x1 (1 : Int32) u_1 hf H locs ls (lv_sub hl [0, 1] rfl) hP hD hS

set_option maxHeartbeats 4000000 in
set_option maxRecDepth 100000 in
theorem m_X4_shuts {l : Launch} (E : Ev) (p_this : Nat) (p_script : Nat) (p_told : Nat) (p_draft : Nat) (p_course : Nat) (p_trial : Nat) (p_imageZero : Nat) (p_imageOne : Nat) (p_ledDoughs : Nat) (p_ledOvens : Nat) (p_rowSearch : Nat) (p_told_ovenNumbers : Nat) (p_told_doughNumbers : Nat) (p_course_rows : Nat) (v_keptImages : Int32) (v_ledCount : Int32) (v_traceSum : Int64) (v_told_ovenCount : Int32) (v_told_doughCount : Int32) (v_course_knownSteps : Int32) (f_course_rows : Nat → Int32) (x1 : Int32) (x2 : Int32) (res : Int32 × Int32 × (Nat → Int32)) (hf : f_X4_shuts  v_told_ovenCount v_course_knownSteps f_course_rows x1 x2 = some res) : MutI l E 4 yX4_shuts cX4_shuts 3 .int [.ref p_this, .int x1, .int x2] (w_X4_shuts E p_this p_script p_told p_draft p_course p_trial p_imageZero p_imageOne p_ledDoughs p_ledOvens p_rowSearch p_told_ovenNumbers p_told_doughNumbers p_course_rows v_keptImages v_ledCount v_traceSum v_told_ovenCount v_told_doughCount v_course_knownSteps f_course_rows) (w_X4_shuts E p_this p_script p_told p_draft p_course p_trial p_imageZero p_imageOne p_ledDoughs p_ledOvens p_rowSearch p_told_ovenNumbers p_told_doughNumbers p_course_rows v_keptImages v_ledCount v_traceSum v_told_ovenCount v_told_doughCount res.2.1 res.2.2) res.1 := by
  refine MutI.of (by decide) (Nat.le_of_ble_eq_true rfl) ?_
  intro p e s m args below meth c Q A X hK hA hret H locs ls hl hP hD hS
  obtain ⟨hx, hb, hml, hown, hts, hrt, hlk⟩ := id X
  have hl : lv_has ls 3 [(0, .ref p_this), (1, .int x1), (2, .int x2)] := hl
  unfold f_X4_shuts at hf
  refine lv_aload_n hx hb dX4_shuts_0 rfl (lv_at hl 0 rfl) ?_
  refine gf_RX4_19 X hK hP 0 rfl rfl dX4_shuts_1 ?_
  refine lv_iload_n hx hb dX4_shuts_4 rfl (lv_at hl 1 rfl) ?_
  obtain ⟨u_1, hu_1, hf⟩ := ob hf
  refine pV X hK hA hP hS hl.1 (m_X3_hasOven (l := l) E p_told p_told_ovenNumbers p_told_doughNumbers v_told_ovenCount v_told_doughCount x1 u_1 hu_1) kRX4_81 [1] rfl rfl rfl rfl ⟨⟨(Nat.le_of_ble_eq_true rfl), (Nat.le_of_ble_eq_true rfl)⟩, Nat.zero_le _, Nat.zero_le _⟩ rfl rfl (Nat.le_of_ble_eq_true rfl) dX4_shuts_5 (fun H locs hP hS => ?_)
  refine lv_if_eq (tgt := 20) hx hb dX4_shuts_8 (by decide) (fun c_2 => ?_) (fun c_2 => ?_)
  · replace hf := ot c_2 hf
    refine lv_iconst (v := (-1 : Int32)) hx hb dX4_shuts_20 (by decide) ?_
    obtain rfl := Option.some.inj hf
    exact hret H locs _ ls rfl hP hS dX4_shuts_21
  · replace hf := of c_2 hf
    refine lv_iload_n hx hb dX4_shuts_11 rfl (lv_at hl 2 rfl) ?_
    refine lv_if_eq (tgt := 22) hx hb dX4_shuts_12 (by decide) (fun c_3 => ?_) (fun c_3 => ?_)
    · replace hf := ot c_3 hf
      exact b_X4_shuts_22 E p_this p_script p_told p_draft p_course p_trial p_imageZero p_imageOne p_ledDoughs p_ledOvens p_rowSearch p_told_ovenNumbers p_told_doughNumbers p_course_rows v_keptImages v_ledCount v_traceSum v_told_ovenCount v_told_doughCount res X hK hA hret   v_course_knownSteps f_course_rows x1 x2 hf H locs ls (lv_sub hl [0, 1, 2] rfl) hP hD hS
    · replace hf := of c_3 hf
      refine lv_iload_n hx hb dX4_shuts_15 rfl (lv_at hl 2 rfl) ?_
      refine lv_iconst (v := (1 : Int32)) hx hb dX4_shuts_16 (by decide) ?_
      refine lv_icmp_eq (tgt := 22) hx hb dX4_shuts_17 (by decide) (fun c_4 => ?_) (fun c_4 => ?_)
      · replace hf := ot c_4 hf
        exact b_X4_shuts_22 E p_this p_script p_told p_draft p_course p_trial p_imageZero p_imageOne p_ledDoughs p_ledOvens p_rowSearch p_told_ovenNumbers p_told_doughNumbers p_course_rows v_keptImages v_ledCount v_traceSum v_told_ovenCount v_told_doughCount res X hK hA hret   v_course_knownSteps f_course_rows x1 x2 hf H locs ls (lv_sub hl [0, 1, 2] rfl) hP hD hS
      · replace hf := of c_4 hf
        refine lv_iconst (v := (-1 : Int32)) hx hb dX4_shuts_20 (by decide) ?_
        obtain rfl := Option.some.inj hf
        exact hret H locs _ ls rfl hP hS dX4_shuts_21

abbrev w_X4_undo (E : Ev) (p_this : Nat) (p_script : Nat) (p_told : Nat) (p_draft : Nat) (p_course : Nat) (p_trial : Nat) (p_imageZero : Nat) (p_imageOne : Nat) (p_ledDoughs : Nat) (p_ledOvens : Nat) (p_rowSearch : Nat) (p_course_rows : Nat) (v_keptImages : Int32) (v_ledCount : Int32) (v_traceSum : Int64) (v_course_knownSteps : Int32) : va_W := [(p_this, .inr (4, [.ref p_script, .ref p_told, .ref p_draft, .ref p_course, .ref p_trial, .ref p_imageZero, .ref p_imageOne, .int v_keptImages, .ref p_ledDoughs, .ref p_ledOvens, .int v_ledCount, .ref p_rowSearch, .long v_traceSum])), (p_course, .inr (0, [.ref p_course_rows, .int v_course_knownSteps]))]
set_option maxHeartbeats 4000000 in
set_option maxRecDepth 100000 in
theorem m_X4_undo {l : Launch} (E : Ev) (p_this : Nat) (p_script : Nat) (p_told : Nat) (p_draft : Nat) (p_course : Nat) (p_trial : Nat) (p_imageZero : Nat) (p_imageOne : Nat) (p_ledDoughs : Nat) (p_ledOvens : Nat) (p_rowSearch : Nat) (p_course_rows : Nat) (v_keptImages : Int32) (v_ledCount : Int32) (v_traceSum : Int64) (v_course_knownSteps : Int32)  (res : Int32 × Int32) (hf : f_X4_undo  v_course_knownSteps  = some res) : MutI l E 2 yX4_undo cX4_undo 1 .int [.ref p_this] (w_X4_undo E p_this p_script p_told p_draft p_course p_trial p_imageZero p_imageOne p_ledDoughs p_ledOvens p_rowSearch p_course_rows v_keptImages v_ledCount v_traceSum v_course_knownSteps) (w_X4_undo E p_this p_script p_told p_draft p_course p_trial p_imageZero p_imageOne p_ledDoughs p_ledOvens p_rowSearch p_course_rows v_keptImages v_ledCount v_traceSum res.2) res.1 := by
  refine MutI.of (by decide) (Nat.le_of_ble_eq_true rfl) ?_
  intro p e s m args below meth c Q A X hK hA hret H locs ls hl hP hD hS
  obtain ⟨hx, hb, hml, hown, hts, hrt, hlk⟩ := id X
  have hl : lv_has ls 1 [(0, .ref p_this)] := hl
  unfold f_X4_undo at hf
  refine lv_aload_n hx hb dX4_undo_0 rfl (lv_at hl 0 rfl) ?_
  refine gf_RX4_29 X hK hP 0 rfl rfl dX4_undo_1 ?_
  obtain ⟨u_1, hu_1, hf⟩ := ob hf
  refine mV X hK hA hP hD hS hl.1 (m_X0_takeBack (l := l) E p_course p_course_rows v_course_knownSteps  u_1 hu_1) kRX4_151 [1] rfl rfl (by simp only [w_X0_takeBack, List.map]) rfl rfl rfl ⟨⟨(Nat.le_of_ble_eq_true rfl), (Nat.le_of_ble_eq_true rfl)⟩, Nat.zero_le _, Nat.zero_le _⟩ rfl rfl (Nat.le_of_ble_eq_true rfl) dX4_undo_4 (fun H locs hP hD hS => ?_)
  have hP : va_P E.1 classes (w_X4_undo E p_this p_script p_told p_draft p_course p_trial p_imageZero p_imageOne p_ledDoughs p_ledOvens p_rowSearch p_course_rows v_keptImages v_ledCount v_traceSum u_1.2) H := hP
  have hD : va_D A (w_X4_undo E p_this p_script p_told p_draft p_course p_trial p_imageZero p_imageOne p_ledDoughs p_ledOvens p_rowSearch p_course_rows v_keptImages v_ledCount v_traceSum u_1.2) := hD
  refine lv_if_eq (tgt := 20) hx hb dX4_undo_7 (by decide) (fun c_2 => ?_) (fun c_2 => ?_)
  · replace hf := ot c_2 hf
    refine lv_bipush (v := (-2 : Int32)) hx hb dX4_undo_20 (by decide) ?_
    obtain rfl := Option.some.inj hf
    exact hret H locs _ ls rfl hP hS dX4_undo_22
  · replace hf := of c_2 hf
    refine lv_aload_n hx hb dX4_undo_10 rfl (lv_at hl 0 rfl) ?_
    refine gf_RX4_29 X hK hP 0 rfl rfl dX4_undo_11 ?_
    obtain ⟨u_3, hu_3, hf⟩ := ob hf
    refine pV X hK hA hP hS hl.1 (m_X0_known (l := l) E p_course p_course_rows u_1.2  u_3 hu_3) kRX4_155 [1] rfl rfl rfl rfl ⟨⟨(Nat.le_of_ble_eq_true rfl), (Nat.le_of_ble_eq_true rfl)⟩, Nat.zero_le _, Nat.zero_le _⟩ rfl rfl (Nat.le_of_ble_eq_true rfl) dX4_undo_14 (fun H locs hP hS => ?_)
    refine lv_goto (tgt := 22) hx hb dX4_undo_17 (by decide) ?_
    obtain rfl := Option.some.inj hf
    exact hret H locs _ ls rfl hP hS dX4_undo_22

abbrev w_X4_outAndGoneSour (E : Ev) (p_this : Nat) (p_script : Nat) (p_told : Nat) (p_draft : Nat) (p_course : Nat) (p_trial : Nat) (p_imageZero : Nat) (p_imageOne : Nat) (p_ledDoughs : Nat) (p_ledOvens : Nat) (p_rowSearch : Nat) (p_told_ovenNumbers : Nat) (p_told_doughNumbers : Nat) (p_course_rows : Nat) (v_keptImages : Int32) (v_ledCount : Int32) (v_traceSum : Int64) (v_told_ovenCount : Int32) (v_told_doughCount : Int32) (v_course_knownSteps : Int32) (f_course_rows : Nat → Int32) (f_told_doughNumbers : Nat → Int32) : va_W := [(p_this, .inr (4, [.ref p_script, .ref p_told, .ref p_draft, .ref p_course, .ref p_trial, .ref p_imageZero, .ref p_imageOne, .int v_keptImages, .ref p_ledDoughs, .ref p_ledOvens, .int v_ledCount, .ref p_rowSearch, .long v_traceSum])), (p_told, .inr (3, [.ref p_told_ovenNumbers, .ref p_told_doughNumbers, .int v_told_ovenCount, .int v_told_doughCount])), (p_course, .inr (0, [.ref p_course_rows, .int v_course_knownSteps])), (p_course_rows, .inl (E.2.1, 154, .inl f_course_rows)), (p_told_doughNumbers, .inl (E.2.1, 30, .inl f_told_doughNumbers))]
set_option maxHeartbeats 4000000 in
set_option maxRecDepth 100000 in
theorem b_X4_outAndGoneSour_4 {p : Program} {l : Launch} {e : Env} {s : State} {m : MethodId} {args : Array Value} {below : List Frame} {meth : Method} {c : Code} {Q : State → Prop} {A : Nat → Prop} (E : Ev) (p_this : Nat) (p_script : Nat) (p_told : Nat) (p_draft : Nat) (p_course : Nat) (p_trial : Nat) (p_imageZero : Nat) (p_imageOne : Nat) (p_ledDoughs : Nat) (p_ledOvens : Nat) (p_rowSearch : Nat) (p_told_ovenNumbers : Nat) (p_told_doughNumbers : Nat) (p_course_rows : Nat) (v_keptImages : Int32) (v_ledCount : Int32) (v_traceSum : Int64) (v_told_ovenCount : Int32) (v_told_doughCount : Int32) (v_course_knownSteps : Int32) (f_course_rows : Nat → Int32) (f_told_doughNumbers : Nat → Int32) (res : Int32) (X : Cx p s m args meth c cX4_outAndGoneSour 3 RX4 (some .int)) (hK : KK E A s s.heap) (hA : ∀ q, s.heap.size ≤ q → A q) (hret : RetI p l e (RM 4) s m args below meth c Q E A cX4_outAndGoneSour .int (w_X4_outAndGoneSour E p_this p_script p_told p_draft p_course p_trial p_imageZero p_imageOne p_ledDoughs p_ledOvens p_rowSearch p_told_ovenNumbers p_told_doughNumbers p_course_rows v_keptImages v_ledCount v_traceSum v_told_ovenCount v_told_doughCount v_course_knownSteps f_course_rows f_told_doughNumbers) res)  : ∀ (n : Nat) (x1 : Int32) (x2 : Int32), f_X4_outAndGoneSour_4 v_told_doughCount v_course_knownSteps f_course_rows f_told_doughNumbers   n x1 x2 = some res → ∀ (H : Heap) (locs : List Loc) (ls : Array Slot), lv_has ls 3 [(0, .ref p_this), (1, .int x1), (2, .int x2)] → va_P E.1 classes (w_X4_outAndGoneSour E p_this p_script p_told p_draft p_course p_trial p_imageZero p_imageOne p_ledDoughs p_ledOvens p_rowSearch p_told_ovenNumbers p_told_doughNumbers p_course_rows v_keptImages v_ledCount v_traceSum v_told_ovenCount v_told_doughCount v_course_knownSteps f_course_rows f_told_doughNumbers) H → va_S A s.heap H locs → W p l e (RM 4) s m args below meth c H locs 0 0 Q (F0 m 4 ls []) := by
  obtain ⟨hx, hb, hml, hown, hts, hrt, hlk⟩ := id X
  intro n
  induction n with
  | zero => intro x1 x2 hf; exact absurd hf (by simp [f_X4_outAndGoneSour_4])
  | succ n ih =>
    intro x1 x2 hf H locs ls hl hP hS
    unfold f_X4_outAndGoneSour_4 at hf
    refine lv_iload_n hx hb dX4_outAndGoneSour_4 rfl (lv_at hl 2 rfl) ?_
    refine lv_aload_n hx hb dX4_outAndGoneSour_5 rfl (lv_at hl 0 rfl) ?_
    refine gf_RX4_19 X hK hP 0 rfl rfl dX4_outAndGoneSour_6 ?_
    obtain ⟨u_1, hu_1, hf⟩ := ob hf
    refine pV X hK hA hP hS hl.1 (m_X3_doughs (l := l) E p_told p_told_ovenNumbers p_told_doughNumbers v_told_ovenCount v_told_doughCount  u_1 hu_1) kRX4_165 [1] rfl rfl rfl rfl ⟨⟨(Nat.le_of_ble_eq_true rfl), (Nat.le_of_ble_eq_true rfl)⟩, Nat.zero_le _, Nat.zero_le _⟩ rfl rfl (Nat.le_of_ble_eq_true rfl) dX4_outAndGoneSour_9 (fun H locs hP hS => ?_)
    refine lv_icmp_ge (tgt := 54) hx hb dX4_outAndGoneSour_12 (by decide) (fun c_2 => ?_) (fun c_2 => ?_)
    · replace hf := ot c_2 hf
      refine lv_iload_n hx hb dX4_outAndGoneSour_54 rfl (lv_at hl 1 rfl) ?_
      obtain rfl := Option.some.inj hf
      exact hret H locs _ ls rfl hP hS dX4_outAndGoneSour_55
    · replace hf := of c_2 hf
      refine lv_aload_n hx hb dX4_outAndGoneSour_15 rfl (lv_at hl 0 rfl) ?_
      refine lv_iload_n hx hb dX4_outAndGoneSour_16 rfl (lv_at hl 2 rfl) ?_
      obtain ⟨u_3, hu_3, hf⟩ := ob hf
      refine pV X hK hA hP hS hl.1 (m_X4_isOut (l := l) E p_this p_script p_told p_draft p_course p_trial p_imageZero p_imageOne p_ledDoughs p_ledOvens p_rowSearch p_course_rows v_keptImages v_ledCount v_traceSum v_course_knownSteps f_course_rows x2 u_3 hu_3) kRX4_112 [0, 2, 3] rfl rfl rfl rfl ⟨⟨(Nat.le_of_ble_eq_true rfl), (Nat.le_of_ble_eq_true rfl)⟩, Nat.zero_le _, Nat.zero_le _⟩ rfl rfl (Nat.le_of_ble_eq_true rfl) dX4_outAndGoneSour_17 (fun H locs hP hS => ?_)
      refine lv_if_eq (tgt := 48) hx hb dX4_outAndGoneSour_20 (by decide) (fun c_4 => ?_) (fun c_4 => ?_)
      · replace hf := ot c_4 hf
        refine lv_iinc (v := (x2 + (1 : Int32))) (lv' := [(2, .int (x2 + (1 : Int32))), (0, .ref p_this), (1, .int x1)]) hx hb dX4_outAndGoneSour_48 hl (k := 2) rfl rfl (by decide) rfl (fun ls hl => ?_)
        refine lv_goto (tgt := 4) hx hb dX4_outAndGoneSour_51 (by decide) ?_
        exact ih x1 (x2 + (1 : Int32)) hf H locs ls (lv_sub hl [1, 2, 0] rfl) hP hS
      · replace hf := of c_4 hf
        refine lv_aload_n hx hb dX4_outAndGoneSour_23 rfl (lv_at hl 0 rfl) ?_
        refine gf_RX4_29 X hK hP 0 rfl rfl dX4_outAndGoneSour_24 ?_
        obtain ⟨u_5, hu_5, hf⟩ := ob hf
        refine pV X hK hA hP hS hl.1 (m_X0_minute (l := l) E p_course p_course_rows v_course_knownSteps f_course_rows  u_5 hu_5) kRX4_137 [2, 3] rfl rfl rfl rfl ⟨⟨(Nat.le_of_ble_eq_true rfl), (Nat.le_of_ble_eq_true rfl)⟩, Nat.zero_le _, Nat.zero_le _⟩ rfl rfl (Nat.le_of_ble_eq_true rfl) dX4_outAndGoneSour_27 (fun H locs hP hS => ?_)
        refine lv_aload_n hx hb dX4_outAndGoneSour_30 rfl (lv_at hl 0 rfl) ?_
        refine gf_RX4_19 X hK hP 0 rfl rfl dX4_outAndGoneSour_31 ?_
        refine lv_iload_n hx hb dX4_outAndGoneSour_34 rfl (lv_at hl 2 rfl) ?_
        refine lv_iconst (v := (4 : Int32)) hx hb dX4_outAndGoneSour_35 (by decide) ?_
        obtain ⟨u_6, hu_6, hf⟩ := ob hf
        refine pV X hK hA hP hS hl.1 (m_X3_ofDough (l := l) E p_told p_told_ovenNumbers p_told_doughNumbers v_told_ovenCount v_told_doughCount f_told_doughNumbers x2 (4 : Int32) u_6 hu_6) kRX4_102 [1, 4] rfl rfl rfl rfl ⟨⟨(Nat.le_of_ble_eq_true rfl), (Nat.le_of_ble_eq_true rfl)⟩, Nat.zero_le _, Nat.zero_le _⟩ rfl rfl (Nat.le_of_ble_eq_true rfl) dX4_outAndGoneSour_36 (fun H locs hP hS => ?_)
        refine lv_icmp_le (tgt := 48) hx hb dX4_outAndGoneSour_39 (by decide) (fun c_7 => ?_) (fun c_7 => ?_)
        · replace hf := ot c_7 hf
          refine lv_iinc (v := (x2 + (1 : Int32))) (lv' := [(2, .int (x2 + (1 : Int32))), (0, .ref p_this), (1, .int x1)]) hx hb dX4_outAndGoneSour_48 hl (k := 2) rfl rfl (by decide) rfl (fun ls hl => ?_)
          refine lv_goto (tgt := 4) hx hb dX4_outAndGoneSour_51 (by decide) ?_
          exact ih x1 (x2 + (1 : Int32)) hf H locs ls (lv_sub hl [1, 2, 0] rfl) hP hS
        · replace hf := of c_7 hf
          refine lv_iload_n hx hb dX4_outAndGoneSour_42 rfl (lv_at hl 1 rfl) ?_
          refine lv_iconst (v := (1 : Int32)) hx hb dX4_outAndGoneSour_43 (by decide) ?_
          refine lv_iload_n hx hb dX4_outAndGoneSour_44 rfl (lv_at hl 2 rfl) ?_
          refine lv_ishl hx hb dX4_outAndGoneSour_45 ?_
          refine lv_ior hx hb dX4_outAndGoneSour_46 ?_
          refine lv_istore_n (lv' := [(1, .int (x1 ||| ((1 : Int32) <<< (x2 &&& 31)))), (0, .ref p_this), (2, .int x2)]) hx hb dX4_outAndGoneSour_47 rfl hl (by decide) rfl (fun ls hl => ?_)
          refine lv_iinc (v := (x2 + (1 : Int32))) (lv' := [(2, .int (x2 + (1 : Int32))), (1, .int (x1 ||| ((1 : Int32) <<< (x2 &&& 31)))), (0, .ref p_this)]) hx hb dX4_outAndGoneSour_48 hl (k := 2) rfl rfl (by decide) rfl (fun ls hl => ?_)
          refine lv_goto (tgt := 4) hx hb dX4_outAndGoneSour_51 (by decide) ?_
          exact ih (x1 ||| ((1 : Int32) <<< (x2 &&& 31))) (x2 + (1 : Int32)) hf H locs ls (lv_sub hl [2, 1, 0] rfl) hP hS

set_option maxHeartbeats 4000000 in
set_option maxRecDepth 100000 in
theorem m_X4_outAndGoneSour {l : Launch} (E : Ev) (p_this : Nat) (p_script : Nat) (p_told : Nat) (p_draft : Nat) (p_course : Nat) (p_trial : Nat) (p_imageZero : Nat) (p_imageOne : Nat) (p_ledDoughs : Nat) (p_ledOvens : Nat) (p_rowSearch : Nat) (p_told_ovenNumbers : Nat) (p_told_doughNumbers : Nat) (p_course_rows : Nat) (v_keptImages : Int32) (v_ledCount : Int32) (v_traceSum : Int64) (v_told_ovenCount : Int32) (v_told_doughCount : Int32) (v_course_knownSteps : Int32) (f_course_rows : Nat → Int32) (f_told_doughNumbers : Nat → Int32)  (res : Int32) (hf : f_X4_outAndGoneSour  v_told_doughCount v_course_knownSteps f_course_rows f_told_doughNumbers  = some res) : PureI l E 4 yX4_outAndGoneSour cX4_outAndGoneSour 3 .int [.ref p_this] (w_X4_outAndGoneSour E p_this p_script p_told p_draft p_course p_trial p_imageZero p_imageOne p_ledDoughs p_ledOvens p_rowSearch p_told_ovenNumbers p_told_doughNumbers p_course_rows v_keptImages v_ledCount v_traceSum v_told_ovenCount v_told_doughCount v_course_knownSteps f_course_rows f_told_doughNumbers) res := by
  refine PureI.of (by decide) (Nat.le_of_ble_eq_true rfl) ?_
  intro p e s m args below meth c Q A X hK hA hret H locs ls hl hP hS
  obtain ⟨hx, hb, hml, hown, hts, hrt, hlk⟩ := id X
  have hl : lv_has ls 3 [(0, .ref p_this)] := hl
  unfold f_X4_outAndGoneSour at hf
  refine lv_iconst (v := (0 : Int32)) hx hb dX4_outAndGoneSour_0 (by decide) ?_
  refine lv_istore_n (lv' := [(1, .int (0 : Int32)), (0, .ref p_this)]) hx hb dX4_outAndGoneSour_1 rfl hl (by decide) rfl (fun ls hl => ?_)
  refine lv_iconst (v := (0 : Int32)) hx hb dX4_outAndGoneSour_2 (by decide) ?_
  refine lv_istore_n (lv' := [(2, .int (0 : Int32)), (1, .int (0 : Int32)), (0, .ref p_this)]) hx hb dX4_outAndGoneSour_3 rfl hl (by decide) rfl (fun ls hl => ?_)
  exact b_X4_outAndGoneSour_4 E p_this p_script p_told p_draft p_course p_trial p_imageZero p_imageOne p_ledDoughs p_ledOvens p_rowSearch p_told_ovenNumbers p_told_doughNumbers p_course_rows v_keptImages v_ledCount v_traceSum v_told_ovenCount v_told_doughCount v_course_knownSteps f_course_rows f_told_doughNumbers res X hK hA hret   FU (0 : Int32) (0 : Int32) hf H locs ls (lv_sub hl [2, 1, 0] rfl) hP hS

abbrev w_X4_now (E : Ev) (p_this : Nat) (p_script : Nat) (p_told : Nat) (p_draft : Nat) (p_course : Nat) (p_trial : Nat) (p_imageZero : Nat) (p_imageOne : Nat) (p_ledDoughs : Nat) (p_ledOvens : Nat) (p_rowSearch : Nat) (p_course_rows : Nat) (p_told_ovenNumbers : Nat) (p_told_doughNumbers : Nat) (v_keptImages : Int32) (v_ledCount : Int32) (v_traceSum : Int64) (v_course_knownSteps : Int32) (v_told_ovenCount : Int32) (v_told_doughCount : Int32) (f_course_rows : Nat → Int32) (f_told_doughNumbers : Nat → Int32) : va_W := [(p_this, .inr (4, [.ref p_script, .ref p_told, .ref p_draft, .ref p_course, .ref p_trial, .ref p_imageZero, .ref p_imageOne, .int v_keptImages, .ref p_ledDoughs, .ref p_ledOvens, .int v_ledCount, .ref p_rowSearch, .long v_traceSum])), (p_course, .inr (0, [.ref p_course_rows, .int v_course_knownSteps])), (p_course_rows, .inl (E.2.1, 154, .inl f_course_rows)), (p_told, .inr (3, [.ref p_told_ovenNumbers, .ref p_told_doughNumbers, .int v_told_ovenCount, .int v_told_doughCount])), (p_told_doughNumbers, .inl (E.2.1, 30, .inl f_told_doughNumbers))]
set_option maxHeartbeats 4000000 in
set_option maxRecDepth 100000 in
theorem m_X4_now {l : Launch} (E : Ev) (p_this : Nat) (p_script : Nat) (p_told : Nat) (p_draft : Nat) (p_course : Nat) (p_trial : Nat) (p_imageZero : Nat) (p_imageOne : Nat) (p_ledDoughs : Nat) (p_ledOvens : Nat) (p_rowSearch : Nat) (p_course_rows : Nat) (p_told_ovenNumbers : Nat) (p_told_doughNumbers : Nat) (v_keptImages : Int32) (v_ledCount : Int32) (v_traceSum : Int64) (v_course_knownSteps : Int32) (v_told_ovenCount : Int32) (v_told_doughCount : Int32) (f_course_rows : Nat → Int32) (f_told_doughNumbers : Nat → Int32) (x1 : Int32) (res : Int32) (hf : f_X4_now  v_course_knownSteps v_told_doughCount f_course_rows f_told_doughNumbers x1 = some res) : PureI l E 5 yX4_now cX4_now 2 .int [.ref p_this, .int x1] (w_X4_now E p_this p_script p_told p_draft p_course p_trial p_imageZero p_imageOne p_ledDoughs p_ledOvens p_rowSearch p_course_rows p_told_ovenNumbers p_told_doughNumbers v_keptImages v_ledCount v_traceSum v_course_knownSteps v_told_ovenCount v_told_doughCount f_course_rows f_told_doughNumbers) res := by
  refine PureI.of (by decide) (Nat.le_of_ble_eq_true rfl) ?_
  intro p e s m args below meth c Q A X hK hA hret H locs ls hl hP hS
  obtain ⟨hx, hb, hml, hown, hts, hrt, hlk⟩ := id X
  have hl : lv_has ls 2 [(0, .ref p_this), (1, .int x1)] := hl
  unfold f_X4_now at hf
  refine lv_iload_n hx hb dX4_now_0 rfl (lv_at hl 1 rfl) ?_
  by_cases c_1 : x1 = 0
  · replace hf := ot c_1 hf
    refine lv_tableIn (off := 35) (tgt := 36) hx hb dX4_now_1 (by rw [c_1]; decide) (by rw [c_1]; decide) (by rw [c_1]; rfl) (by decide) ?_
    refine lv_aload_n hx hb dX4_now_36 rfl (lv_at hl 0 rfl) ?_
    refine gf_RX4_29 X hK hP 0 rfl rfl dX4_now_37 ?_
    obtain ⟨u_2, hu_2, hf⟩ := ob hf
    refine pV X hK hA hP hS hl.1 (m_X0_minute (l := l) E p_course p_course_rows v_course_knownSteps f_course_rows  u_2 hu_2) kRX4_137 [1, 2] rfl rfl rfl rfl ⟨⟨(Nat.le_of_ble_eq_true rfl), (Nat.le_of_ble_eq_true rfl)⟩, Nat.zero_le _, Nat.zero_le _⟩ rfl rfl (Nat.le_of_ble_eq_true rfl) dX4_now_40 (fun H locs hP hS => ?_)
    obtain rfl := Option.some.inj hf
    exact hret H locs _ ls rfl hP hS dX4_now_43
  · replace hf := of c_1 hf
    by_cases c_3 : x1 = 1
    · replace hf := ot c_3 hf
      refine lv_tableIn (off := 43) (tgt := 44) hx hb dX4_now_1 (by rw [c_3]; decide) (by rw [c_3]; decide) (by rw [c_3]; rfl) (by decide) ?_
      refine lv_aload_n hx hb dX4_now_44 rfl (lv_at hl 0 rfl) ?_
      refine gf_RX4_29 X hK hP 0 rfl rfl dX4_now_45 ?_
      refine lv_aload_n hx hb dX4_now_48 rfl (lv_at hl 0 rfl) ?_
      refine gf_RX4_19 X hK hP 0 rfl rfl dX4_now_49 ?_
      refine lv_bipush (v := (-9 : Int32)) hx hb dX4_now_52 (by decide) ?_
      obtain ⟨u_4, hu_4, hf⟩ := ob hf
      refine pV X hK hA hP hS hl.1 (m_X0_placedAt (l := l) E p_course p_course_rows p_told p_told_ovenNumbers p_told_doughNumbers v_course_knownSteps v_told_ovenCount v_told_doughCount f_course_rows (-9 : Int32) u_4 hu_4) kRX4_89 [1, 3, 2] rfl rfl rfl rfl ⟨⟨(Nat.le_of_ble_eq_true rfl), (Nat.le_of_ble_eq_true rfl)⟩, Nat.zero_le _, Nat.zero_le _⟩ rfl rfl (Nat.le_of_ble_eq_true rfl) dX4_now_54 (fun H locs hP hS => ?_)
      obtain rfl := Option.some.inj hf
      exact hret H locs _ ls rfl hP hS dX4_now_57
    · replace hf := of c_3 hf
      by_cases c_5 : x1 = 2
      · replace hf := ot c_5 hf
        refine lv_tableIn (off := 57) (tgt := 58) hx hb dX4_now_1 (by rw [c_5]; decide) (by rw [c_5]; decide) (by rw [c_5]; rfl) (by decide) ?_
        refine lv_aload_n hx hb dX4_now_58 rfl (lv_at hl 0 rfl) ?_
        refine gf_RX4_29 X hK hP 0 rfl rfl dX4_now_59 ?_
        refine lv_aload_n hx hb dX4_now_62 rfl (lv_at hl 0 rfl) ?_
        refine gf_RX4_19 X hK hP 0 rfl rfl dX4_now_63 ?_
        refine lv_bipush (v := (-5 : Int32)) hx hb dX4_now_66 (by decide) ?_
        obtain ⟨u_6, hu_6, hf⟩ := ob hf
        refine pV X hK hA hP hS hl.1 (m_X0_placedAt (l := l) E p_course p_course_rows p_told p_told_ovenNumbers p_told_doughNumbers v_course_knownSteps v_told_ovenCount v_told_doughCount f_course_rows (-5 : Int32) u_6 hu_6) kRX4_89 [1, 3, 2] rfl rfl rfl rfl ⟨⟨(Nat.le_of_ble_eq_true rfl), (Nat.le_of_ble_eq_true rfl)⟩, Nat.zero_le _, Nat.zero_le _⟩ rfl rfl (Nat.le_of_ble_eq_true rfl) dX4_now_68 (fun H locs hP hS => ?_)
        obtain rfl := Option.some.inj hf
        exact hret H locs _ ls rfl hP hS dX4_now_71
      · replace hf := of c_5 hf
        by_cases c_7 : x1 = 3
        · replace hf := ot c_7 hf
          refine lv_tableIn (off := 71) (tgt := 72) hx hb dX4_now_1 (by rw [c_7]; decide) (by rw [c_7]; decide) (by rw [c_7]; rfl) (by decide) ?_
          refine lv_aload_n hx hb dX4_now_72 rfl (lv_at hl 0 rfl) ?_
          obtain ⟨u_8, hu_8, hf⟩ := ob hf
          refine pV X hK hA hP hS hl.1 (m_X4_outAndGoneSour (l := l) E p_this p_script p_told p_draft p_course p_trial p_imageZero p_imageOne p_ledDoughs p_ledOvens p_rowSearch p_told_ovenNumbers p_told_doughNumbers p_course_rows v_keptImages v_ledCount v_traceSum v_told_ovenCount v_told_doughCount v_course_knownSteps f_course_rows f_told_doughNumbers  u_8 hu_8) kRX4_158 [0, 3, 1, 2, 4] rfl rfl rfl rfl ⟨⟨(Nat.le_of_ble_eq_true rfl), (Nat.le_of_ble_eq_true rfl)⟩, Nat.zero_le _, Nat.zero_le _⟩ rfl rfl (Nat.le_of_ble_eq_true rfl) dX4_now_73 (fun H locs hP hS => ?_)
          obtain rfl := Option.some.inj hf
          exact hret H locs _ ls rfl hP hS dX4_now_76
        · replace hf := of c_7 hf
          by_cases c_9 : x1 = 4
          · replace hf := ot c_9 hf
            refine lv_tableIn (off := 76) (tgt := 77) hx hb dX4_now_1 (by rw [c_9]; decide) (by rw [c_9]; decide) (by rw [c_9]; rfl) (by decide) ?_
            refine lv_aload_n hx hb dX4_now_77 rfl (lv_at hl 0 rfl) ?_
            refine gf_RX4_29 X hK hP 0 rfl rfl dX4_now_78 ?_
            obtain ⟨u_10, hu_10, hf⟩ := ob hf
            refine pV X hK hA hP hS hl.1 (m_X0_shutBits (l := l) E p_course p_course_rows v_course_knownSteps f_course_rows  u_10 hu_10) kRX4_148 [1, 2] rfl rfl rfl rfl ⟨⟨(Nat.le_of_ble_eq_true rfl), (Nat.le_of_ble_eq_true rfl)⟩, Nat.zero_le _, Nat.zero_le _⟩ rfl rfl (Nat.le_of_ble_eq_true rfl) dX4_now_81 (fun H locs hP hS => ?_)
            obtain rfl := Option.some.inj hf
            exact hret H locs _ ls rfl hP hS dX4_now_84
          · replace hf := of c_9 hf
            refine lv_tableOut (tgt := 85) hx hb dX4_now_1 (by
                have e_1 := lv_neT c_1 (show (0 : Int32).toInt = 0 by decide)
                have e_3 := lv_neT c_3 (show (1 : Int32).toInt = 1 by decide)
                have e_5 := lv_neT c_5 (show (2 : Int32).toInt = 2 by decide)
                have e_7 := lv_neT c_7 (show (3 : Int32).toInt = 3 by decide)
                have e_9 := lv_neT c_9 (show (4 : Int32).toInt = 4 by decide)
                omega) (by decide) ?_
            refine lv_iconst (v := (-1 : Int32)) hx hb dX4_now_85 (by decide) ?_
            obtain rfl := Option.some.inj hf
            exact hret H locs _ ls rfl hP hS dX4_now_86

abbrev w_X4_when (E : Ev) (p_this : Nat) (p_script : Nat) (p_told : Nat) (p_draft : Nat) (p_course : Nat) (p_trial : Nat) (p_imageZero : Nat) (p_imageOne : Nat) (p_ledDoughs : Nat) (p_ledOvens : Nat) (p_rowSearch : Nat) (p_told_ovenNumbers : Nat) (p_told_doughNumbers : Nat) (p_course_rows : Nat) (p_trial_rows : Nat) (v_keptImages : Int32) (v_ledCount : Int32) (v_traceSum : Int64) (v_told_ovenCount : Int32) (v_told_doughCount : Int32) (v_course_knownSteps : Int32) (v_trial_knownSteps : Int32) (f_course_rows : Nat → Int32) (f_trial_rows : Nat → Int32) (f_told_ovenNumbers : Nat → Int32) (f_told_doughNumbers : Nat → Int32) : va_W := [(p_this, .inr (4, [.ref p_script, .ref p_told, .ref p_draft, .ref p_course, .ref p_trial, .ref p_imageZero, .ref p_imageOne, .int v_keptImages, .ref p_ledDoughs, .ref p_ledOvens, .int v_ledCount, .ref p_rowSearch, .long v_traceSum])), (p_told, .inr (3, [.ref p_told_ovenNumbers, .ref p_told_doughNumbers, .int v_told_ovenCount, .int v_told_doughCount])), (p_course, .inr (0, [.ref p_course_rows, .int v_course_knownSteps])), (p_course_rows, .inl (E.2.1, 154, .inl f_course_rows)), (p_trial, .inr (0, [.ref p_trial_rows, .int v_trial_knownSteps])), (p_trial_rows, .inl (E.2.1, 154, .inl f_trial_rows)), (p_told_ovenNumbers, .inl (E.2.1, 10, .inl f_told_ovenNumbers)), (p_told_doughNumbers, .inl (E.2.1, 30, .inl f_told_doughNumbers))]
set_option maxHeartbeats 4000000 in
set_option maxRecDepth 100000 in
theorem b_X4_when_47 {p : Program} {l : Launch} {e : Env} {s : State} {m : MethodId} {args : Array Value} {below : List Frame} {meth : Method} {c : Code} {Q : State → Prop} {A : Nat → Prop} (E : Ev) (p_this : Nat) (p_script : Nat) (p_told : Nat) (p_draft : Nat) (p_course : Nat) (p_trial : Nat) (p_imageZero : Nat) (p_imageOne : Nat) (p_ledDoughs : Nat) (p_ledOvens : Nat) (p_rowSearch : Nat) (p_told_ovenNumbers : Nat) (p_told_doughNumbers : Nat) (p_course_rows : Nat) (p_trial_rows : Nat) (v_keptImages : Int32) (v_ledCount : Int32) (v_traceSum : Int64) (v_told_ovenCount : Int32) (v_told_doughCount : Int32) (v_course_knownSteps : Int32) (f_course_rows : Nat → Int32) (f_told_ovenNumbers : Nat → Int32) (f_told_doughNumbers : Nat → Int32) (res : Int32 × Int32 × (Nat → Int32)) (X : Cx p s m args meth c cX4_when 3 RX4 (some .int)) (hK : KK E A s s.heap) (hA : ∀ q, s.heap.size ≤ q → A q) (hret : RetI p l e (RM 6) s m args below meth c Q E A cX4_when .int (w_X4_when E p_this p_script p_told p_draft p_course p_trial p_imageZero p_imageOne p_ledDoughs p_ledOvens p_rowSearch p_told_ovenNumbers p_told_doughNumbers p_course_rows p_trial_rows v_keptImages v_ledCount v_traceSum v_told_ovenCount v_told_doughCount v_course_knownSteps res.2.1 f_course_rows res.2.2 f_told_ovenNumbers f_told_doughNumbers) res.1)  : ∀ (n : Nat) (v_trial_knownSteps : Int32) (f_trial_rows : Nat → Int32) (x1 : Int32) (x2 : Int32), f_X4_when_47 v_told_ovenCount v_told_doughCount v_course_knownSteps f_course_rows f_told_ovenNumbers f_told_doughNumbers   n v_trial_knownSteps f_trial_rows x1 x2 = some res → ∀ (H : Heap) (locs : List Loc) (ls : Array Slot), lv_has ls 3 [(0, .ref p_this), (1, .int x1), (2, .int x2)] → va_P E.1 classes (w_X4_when E p_this p_script p_told p_draft p_course p_trial p_imageZero p_imageOne p_ledDoughs p_ledOvens p_rowSearch p_told_ovenNumbers p_told_doughNumbers p_course_rows p_trial_rows v_keptImages v_ledCount v_traceSum v_told_ovenCount v_told_doughCount v_course_knownSteps v_trial_knownSteps f_course_rows f_trial_rows f_told_ovenNumbers f_told_doughNumbers) H → va_D A (w_X4_when E p_this p_script p_told p_draft p_course p_trial p_imageZero p_imageOne p_ledDoughs p_ledOvens p_rowSearch p_told_ovenNumbers p_told_doughNumbers p_course_rows p_trial_rows v_keptImages v_ledCount v_traceSum v_told_ovenCount v_told_doughCount v_course_knownSteps v_trial_knownSteps f_course_rows f_trial_rows f_told_ovenNumbers f_told_doughNumbers) → va_S A s.heap H locs → W p l e (RM 6) s m args below meth c H locs 0 0 Q (F0 m 47 ls []) := by
  obtain ⟨hx, hb, hml, hown, hts, hrt, hlk⟩ := id X
  intro n
  induction n with
  | zero => intro v_trial_knownSteps f_trial_rows x1 x2 hf; exact absurd hf (by simp [f_X4_when_47])
  | succ n ih =>
    intro v_trial_knownSteps f_trial_rows x1 x2 hf H locs ls hl hP hD hS
    unfold f_X4_when_47 at hf
    refine lv_iload_n hx hb dX4_when_47 rfl (lv_at hl 2 rfl) ?_
    refine lv_sipush (v := (200 : Int32)) hx hb dX4_when_48 (by decide) ?_
    refine lv_icmp_ge (tgt := 92) hx hb dX4_when_51 (by decide) (fun c_1 => ?_) (fun c_1 => ?_)
    · replace hf := ot c_1 hf
      refine lv_bipush (v := (-9 : Int32)) hx hb dX4_when_92 (by decide) ?_
      obtain rfl := Option.some.inj hf
      exact hret H locs _ ls rfl hP hS dX4_when_94
    · replace hf := of c_1 hf
      refine lv_aload_n hx hb dX4_when_54 rfl (lv_at hl 0 rfl) ?_
      refine gf_RX4_33 X hK hP 0 rfl rfl dX4_when_55 ?_
      refine lv_aload_n hx hb dX4_when_58 rfl (lv_at hl 0 rfl) ?_
      refine gf_RX4_19 X hK hP 0 rfl rfl dX4_when_59 ?_
      obtain ⟨u_2, hu_2, hf⟩ := ob hf
      refine mVv X hK hA hP hD hS hl.1 (m_X0_passMinute (l := l) E p_trial p_trial_rows p_told p_told_ovenNumbers p_told_doughNumbers v_trial_knownSteps v_told_ovenCount v_told_doughCount f_trial_rows f_told_ovenNumbers f_told_doughNumbers  u_2 hu_2) kRX4_140 [4, 5, 1, 6, 7] rfl rfl (by simp only [w_X0_passMinute, List.map]) rfl rfl rfl ⟨⟨(Nat.le_of_ble_eq_true rfl), (Nat.le_of_ble_eq_true rfl)⟩, Nat.zero_le _, Nat.zero_le _⟩ rfl rfl (Nat.le_of_ble_eq_true rfl) dX4_when_62 (fun H locs hP hD hS => ?_)
      have hP : va_P E.1 classes (w_X4_when E p_this p_script p_told p_draft p_course p_trial p_imageZero p_imageOne p_ledDoughs p_ledOvens p_rowSearch p_told_ovenNumbers p_told_doughNumbers p_course_rows p_trial_rows v_keptImages v_ledCount v_traceSum v_told_ovenCount v_told_doughCount v_course_knownSteps v_trial_knownSteps f_course_rows u_2 f_told_ovenNumbers f_told_doughNumbers) H := hP
      have hD : va_D A (w_X4_when E p_this p_script p_told p_draft p_course p_trial p_imageZero p_imageOne p_ledDoughs p_ledOvens p_rowSearch p_told_ovenNumbers p_told_doughNumbers p_course_rows p_trial_rows v_keptImages v_ledCount v_traceSum v_told_ovenCount v_told_doughCount v_course_knownSteps v_trial_knownSteps f_course_rows u_2 f_told_ovenNumbers f_told_doughNumbers) := hD
      refine lv_aload_n hx hb dX4_when_65 rfl (lv_at hl 0 rfl) ?_
      refine gf_RX4_33 X hK hP 0 rfl rfl dX4_when_66 ?_
      refine lv_iload_n hx hb dX4_when_69 rfl (lv_at hl 1 rfl) ?_
      obtain ⟨u_3, hu_3, hf⟩ := ob hf
      refine pV X hK hA hP hS hl.1 (m_X0_place (l := l) E p_trial p_trial_rows v_trial_knownSteps u_2 x1 u_3 hu_3) kRX4_105 [4, 5] rfl rfl rfl rfl ⟨⟨(Nat.le_of_ble_eq_true rfl), (Nat.le_of_ble_eq_true rfl)⟩, Nat.zero_le _, Nat.zero_le _⟩ rfl rfl (Nat.le_of_ble_eq_true rfl) dX4_when_70 (fun H locs hP hS => ?_)
      refine lv_bipush (v := (-5 : Int32)) hx hb dX4_when_73 (by decide) ?_
      refine lv_icmp_ne (tgt := 86) hx hb dX4_when_75 (by decide) (fun c_4 => ?_) (fun c_4 => ?_)
      · replace hf := of c_4 hf
        refine lv_iinc (v := (x2 + (1 : Int32))) (lv' := [(2, .int (x2 + (1 : Int32))), (0, .ref p_this), (1, .int x1)]) hx hb dX4_when_86 hl (k := 2) rfl rfl (by decide) rfl (fun ls hl => ?_)
        refine lv_goto (tgt := 47) hx hb dX4_when_89 (by decide) ?_
        exact ih v_trial_knownSteps u_2 x1 (x2 + (1 : Int32)) hf H locs ls (lv_sub hl [1, 2, 0] rfl) hP hD hS
      · replace hf := ot c_4 hf
        refine lv_aload_n hx hb dX4_when_78 rfl (lv_at hl 0 rfl) ?_
        refine gf_RX4_33 X hK hP 0 rfl rfl dX4_when_79 ?_
        obtain ⟨u_5, hu_5, hf⟩ := ob hf
        refine pV X hK hA hP hS hl.1 (m_X0_minute (l := l) E p_trial p_trial_rows v_trial_knownSteps u_2  u_5 hu_5) kRX4_137 [4, 5] rfl rfl rfl rfl ⟨⟨(Nat.le_of_ble_eq_true rfl), (Nat.le_of_ble_eq_true rfl)⟩, Nat.zero_le _, Nat.zero_le _⟩ rfl rfl (Nat.le_of_ble_eq_true rfl) dX4_when_82 (fun H locs hP hS => ?_)
        obtain rfl := Option.some.inj hf
        exact hret H locs _ ls rfl hP hS dX4_when_85

set_option maxHeartbeats 4000000 in
set_option maxRecDepth 100000 in
theorem m_X4_when {l : Launch} (E : Ev) (p_this : Nat) (p_script : Nat) (p_told : Nat) (p_draft : Nat) (p_course : Nat) (p_trial : Nat) (p_imageZero : Nat) (p_imageOne : Nat) (p_ledDoughs : Nat) (p_ledOvens : Nat) (p_rowSearch : Nat) (p_told_ovenNumbers : Nat) (p_told_doughNumbers : Nat) (p_course_rows : Nat) (p_trial_rows : Nat) (v_keptImages : Int32) (v_ledCount : Int32) (v_traceSum : Int64) (v_told_ovenCount : Int32) (v_told_doughCount : Int32) (v_course_knownSteps : Int32) (v_trial_knownSteps : Int32) (f_course_rows : Nat → Int32) (f_trial_rows : Nat → Int32) (f_told_ovenNumbers : Nat → Int32) (f_told_doughNumbers : Nat → Int32) (x1 : Int32) (res : Int32 × Int32 × (Nat → Int32)) (hf : f_X4_when  v_told_ovenCount v_told_doughCount v_course_knownSteps f_course_rows f_told_ovenNumbers f_told_doughNumbers v_trial_knownSteps f_trial_rows x1 = some res) : MutI l E 6 yX4_when cX4_when 3 .int [.ref p_this, .int x1] (w_X4_when E p_this p_script p_told p_draft p_course p_trial p_imageZero p_imageOne p_ledDoughs p_ledOvens p_rowSearch p_told_ovenNumbers p_told_doughNumbers p_course_rows p_trial_rows v_keptImages v_ledCount v_traceSum v_told_ovenCount v_told_doughCount v_course_knownSteps v_trial_knownSteps f_course_rows f_trial_rows f_told_ovenNumbers f_told_doughNumbers) (w_X4_when E p_this p_script p_told p_draft p_course p_trial p_imageZero p_imageOne p_ledDoughs p_ledOvens p_rowSearch p_told_ovenNumbers p_told_doughNumbers p_course_rows p_trial_rows v_keptImages v_ledCount v_traceSum v_told_ovenCount v_told_doughCount v_course_knownSteps res.2.1 f_course_rows res.2.2 f_told_ovenNumbers f_told_doughNumbers) res.1 := by
  refine MutI.of (by decide) (Nat.le_of_ble_eq_true rfl) ?_
  intro p e s m args below meth c Q A X hK hA hret H locs ls hl hP hD hS
  obtain ⟨hx, hb, hml, hown, hts, hrt, hlk⟩ := id X
  have hl : lv_has ls 3 [(0, .ref p_this), (1, .int x1)] := hl
  unfold f_X4_when at hf
  refine lv_aload_n hx hb dX4_when_0 rfl (lv_at hl 0 rfl) ?_
  refine gf_RX4_19 X hK hP 0 rfl rfl dX4_when_1 ?_
  refine lv_iload_n hx hb dX4_when_4 rfl (lv_at hl 1 rfl) ?_
  obtain ⟨u_1, hu_1, hf⟩ := ob hf
  refine pV X hK hA hP hS hl.1 (m_X3_hasDough (l := l) E p_told p_told_ovenNumbers p_told_doughNumbers v_told_ovenCount v_told_doughCount x1 u_1 hu_1) kRX4_99 [1] rfl rfl rfl rfl ⟨⟨(Nat.le_of_ble_eq_true rfl), (Nat.le_of_ble_eq_true rfl)⟩, Nat.zero_le _, Nat.zero_le _⟩ rfl rfl (Nat.le_of_ble_eq_true rfl) dX4_when_5 (fun H locs hP hS => ?_)
  refine lv_if_ne (tgt := 13) hx hb dX4_when_8 (by decide) (fun c_2 => ?_) (fun c_2 => ?_)
  · replace hf := of c_2 hf
    refine lv_aload_n hx hb dX4_when_13 rfl (lv_at hl 0 rfl) ?_
    refine gf_RX4_19 X hK hP 0 rfl rfl dX4_when_14 ?_
    refine lv_aload_n hx hb dX4_when_17 rfl (lv_at hl 0 rfl) ?_
    refine gf_RX4_29 X hK hP 0 rfl rfl dX4_when_18 ?_
    refine lv_iload_n hx hb dX4_when_21 rfl (lv_at hl 1 rfl) ?_
    obtain ⟨u_3, hu_3, hf⟩ := ob hf
    refine pV X hK hA hP hS hl.1 (m_X0_place (l := l) E p_course p_course_rows v_course_knownSteps f_course_rows x1 u_3 hu_3) kRX4_105 [2, 3] rfl rfl rfl rfl ⟨⟨(Nat.le_of_ble_eq_true rfl), (Nat.le_of_ble_eq_true rfl)⟩, Nat.zero_le _, Nat.zero_le _⟩ rfl rfl (Nat.le_of_ble_eq_true rfl) dX4_when_22 (fun H locs hP hS => ?_)
    obtain ⟨u_4, hu_4, hf⟩ := ob hf
    refine pV X hK hA hP hS hl.1 (m_X3_hasOven (l := l) E p_told p_told_ovenNumbers p_told_doughNumbers v_told_ovenCount v_told_doughCount u_3 u_4 hu_4) kRX4_81 [1] rfl rfl rfl rfl ⟨⟨(Nat.le_of_ble_eq_true rfl), (Nat.le_of_ble_eq_true rfl)⟩, Nat.zero_le _, Nat.zero_le _⟩ rfl rfl (Nat.le_of_ble_eq_true rfl) dX4_when_25 (fun H locs hP hS => ?_)
    refine lv_if_ne (tgt := 34) hx hb dX4_when_28 (by decide) (fun c_5 => ?_) (fun c_5 => ?_)
    · replace hf := of c_5 hf
      refine lv_aload_n hx hb dX4_when_34 rfl (lv_at hl 0 rfl) ?_
      refine gf_RX4_33 X hK hP 0 rfl rfl dX4_when_35 ?_
      refine lv_aload_n hx hb dX4_when_38 rfl (lv_at hl 0 rfl) ?_
      refine gf_RX4_29 X hK hP 0 rfl rfl dX4_when_39 ?_
      obtain ⟨u_6, hu_6, hf⟩ := ob hf
      refine mVv X hK hA hP hD hS hl.1 (m_X0_copyNow (l := l) E p_trial p_trial_rows p_course p_course_rows v_trial_knownSteps v_course_knownSteps f_course_rows f_trial_rows  u_6 hu_6) kRX4_161 [4, 2, 3, 5] rfl rfl (by simp only [w_X0_copyNow, List.map]) rfl rfl rfl ⟨⟨(Nat.le_of_ble_eq_true rfl), (Nat.le_of_ble_eq_true rfl)⟩, Nat.zero_le _, Nat.zero_le _⟩ rfl rfl (Nat.le_of_ble_eq_true rfl) dX4_when_42 (fun H locs hP hD hS => ?_)
      have hP : va_P E.1 classes (w_X4_when E p_this p_script p_told p_draft p_course p_trial p_imageZero p_imageOne p_ledDoughs p_ledOvens p_rowSearch p_told_ovenNumbers p_told_doughNumbers p_course_rows p_trial_rows v_keptImages v_ledCount v_traceSum v_told_ovenCount v_told_doughCount v_course_knownSteps u_6.1 f_course_rows u_6.2 f_told_ovenNumbers f_told_doughNumbers) H := hP
      have hD : va_D A (w_X4_when E p_this p_script p_told p_draft p_course p_trial p_imageZero p_imageOne p_ledDoughs p_ledOvens p_rowSearch p_told_ovenNumbers p_told_doughNumbers p_course_rows p_trial_rows v_keptImages v_ledCount v_traceSum v_told_ovenCount v_told_doughCount v_course_knownSteps u_6.1 f_course_rows u_6.2 f_told_ovenNumbers f_told_doughNumbers) := hD
      refine lv_iconst (v := (0 : Int32)) hx hb dX4_when_45 (by decide) ?_
      refine lv_istore_n (lv' := [(2, .int (0 : Int32)), (0, .ref p_this), (1, .int x1)]) hx hb dX4_when_46 rfl hl (by decide) rfl (fun ls hl => ?_)
      exact b_X4_when_47 E p_this p_script p_told p_draft p_course p_trial p_imageZero p_imageOne p_ledDoughs p_ledOvens p_rowSearch p_told_ovenNumbers p_told_doughNumbers p_course_rows p_trial_rows v_keptImages v_ledCount v_traceSum v_told_ovenCount v_told_doughCount v_course_knownSteps f_course_rows f_told_ovenNumbers f_told_doughNumbers res X hK hA hret   FU u_6.1 u_6.2 x1 (0 : Int32) hf H locs ls (lv_sub hl [1, 2, 0] rfl) hP hD hS
    · replace hf := ot c_5 hf
      refine lv_bipush (v := (-2 : Int32)) hx hb dX4_when_31 (by decide) ?_
      obtain rfl := Option.some.inj hf
      exact hret H locs _ ls rfl hP hS dX4_when_33
  · replace hf := ot c_2 hf
    refine lv_iconst (v := (-1 : Int32)) hx hb dX4_when_11 (by decide) ?_
    obtain rfl := Option.some.inj hf
    exact hret H locs _ ls rfl hP hS dX4_when_12

abbrev w_X4_moved (E : Ev) (p_this : Nat) (p_script : Nat) (p_told : Nat) (p_draft : Nat) (p_course : Nat) (p_trial : Nat) (p_imageZero : Nat) (p_imageOne : Nat) (p_ledDoughs : Nat) (p_ledOvens : Nat) (p_rowSearch : Nat) (p_told_ovenNumbers : Nat) (p_told_doughNumbers : Nat) (p_course_rows : Nat) (v_keptImages : Int32) (v_ledCount : Int32) (v_traceSum : Int64) (v_told_ovenCount : Int32) (v_told_doughCount : Int32) (v_course_knownSteps : Int32) (f_course_rows : Nat → Int32) (f_told_ovenNumbers : Nat → Int32) (f_told_doughNumbers : Nat → Int32) : va_W := [(p_this, .inr (4, [.ref p_script, .ref p_told, .ref p_draft, .ref p_course, .ref p_trial, .ref p_imageZero, .ref p_imageOne, .int v_keptImages, .ref p_ledDoughs, .ref p_ledOvens, .int v_ledCount, .ref p_rowSearch, .long v_traceSum])), (p_told, .inr (3, [.ref p_told_ovenNumbers, .ref p_told_doughNumbers, .int v_told_ovenCount, .int v_told_doughCount])), (p_course, .inr (0, [.ref p_course_rows, .int v_course_knownSteps])), (p_course_rows, .inl (E.2.1, 154, .inl f_course_rows)), (p_told_ovenNumbers, .inl (E.2.1, 10, .inl f_told_ovenNumbers)), (p_told_doughNumbers, .inl (E.2.1, 30, .inl f_told_doughNumbers))]
set_option maxHeartbeats 4000000 in
set_option maxRecDepth 100000 in
theorem b_X4_moved_31 {p : Program} {l : Launch} {e : Env} {s : State} {m : MethodId} {args : Array Value} {below : List Frame} {meth : Method} {c : Code} {Q : State → Prop} {A : Nat → Prop} (E : Ev) (p_this : Nat) (p_script : Nat) (p_told : Nat) (p_draft : Nat) (p_course : Nat) (p_trial : Nat) (p_imageZero : Nat) (p_imageOne : Nat) (p_ledDoughs : Nat) (p_ledOvens : Nat) (p_rowSearch : Nat) (p_told_ovenNumbers : Nat) (p_told_doughNumbers : Nat) (p_course_rows : Nat) (v_keptImages : Int32) (v_ledCount : Int32) (v_traceSum : Int64) (v_told_ovenCount : Int32) (v_told_doughCount : Int32) (v_course_knownSteps : Int32) (f_course_rows : Nat → Int32) (f_told_ovenNumbers : Nat → Int32) (f_told_doughNumbers : Nat → Int32) (res : Int32) (X : Cx p s m args meth c cX4_moved 4 RX4 (some .int)) (hK : KK E A s s.heap) (hA : ∀ q, s.heap.size ≤ q → A q) (hret : RetI p l e (RM 6) s m args below meth c Q E A cX4_moved .int (w_X4_moved E p_this p_script p_told p_draft p_course p_trial p_imageZero p_imageOne p_ledDoughs p_ledOvens p_rowSearch p_told_ovenNumbers p_told_doughNumbers p_course_rows v_keptImages v_ledCount v_traceSum v_told_ovenCount v_told_doughCount v_course_knownSteps f_course_rows f_told_ovenNumbers f_told_doughNumbers) res)  : ∀ (n : Nat) (x1 : Int32) (x2 : Int32) (x3 : Int32), f_X4_moved_31 v_told_ovenCount v_told_doughCount v_course_knownSteps f_course_rows f_told_ovenNumbers f_told_doughNumbers   n x1 x2 x3 = some res → ∀ (H : Heap) (locs : List Loc) (ls : Array Slot), lv_has ls 4 [(0, .ref p_this), (1, .int x1), (2, .int x2), (3, .int x3)] → va_P E.1 classes (w_X4_moved E p_this p_script p_told p_draft p_course p_trial p_imageZero p_imageOne p_ledDoughs p_ledOvens p_rowSearch p_told_ovenNumbers p_told_doughNumbers p_course_rows v_keptImages v_ledCount v_traceSum v_told_ovenCount v_told_doughCount v_course_knownSteps f_course_rows f_told_ovenNumbers f_told_doughNumbers) H → va_S A s.heap H locs → W p l e (RM 6) s m args below meth c H locs 0 0 Q (F0 m 31 ls []) := by
  obtain ⟨hx, hb, hml, hown, hts, hrt, hlk⟩ := id X
  intro n
  induction n with
  | zero => intro x1 x2 x3 hf; exact absurd hf (by simp [f_X4_moved_31])
  | succ n ih =>
    intro x1 x2 x3 hf H locs ls hl hP hS
    unfold f_X4_moved_31 at hf
    refine lv_iload_n hx hb dX4_moved_31 rfl (lv_at hl 3 rfl) ?_
    refine lv_aload_n hx hb dX4_moved_32 rfl (lv_at hl 0 rfl) ?_
    refine gf_RX4_19 X hK hP 0 rfl rfl dX4_moved_33 ?_
    obtain ⟨u_1, hu_1, hf⟩ := ob hf
    refine pV X hK hA hP hS hl.1 (m_X3_doughs (l := l) E p_told p_told_ovenNumbers p_told_doughNumbers v_told_ovenCount v_told_doughCount  u_1 hu_1) kRX4_165 [1] rfl rfl rfl rfl ⟨⟨(Nat.le_of_ble_eq_true rfl), (Nat.le_of_ble_eq_true rfl)⟩, Nat.zero_le _, Nat.zero_le _⟩ rfl rfl (Nat.le_of_ble_eq_true rfl) dX4_moved_36 (fun H locs hP hS => ?_)
    refine lv_icmp_ge (tgt := 72) hx hb dX4_moved_39 (by decide) (fun c_2 => ?_) (fun c_2 => ?_)
    · replace hf := ot c_2 hf
      refine lv_iload_n hx hb dX4_moved_72 rfl (lv_at hl 2 rfl) ?_
      obtain rfl := Option.some.inj hf
      exact hret H locs _ ls rfl hP hS dX4_moved_73
    · replace hf := of c_2 hf
      refine lv_aload_n hx hb dX4_moved_42 rfl (lv_at hl 0 rfl) ?_
      refine lv_iload_n hx hb dX4_moved_43 rfl (lv_at hl 3 rfl) ?_
      obtain ⟨u_3, hu_3, hf⟩ := ob hf
      refine pV X hK hA hP hS hl.1 (m_X4_isOut (l := l) E p_this p_script p_told p_draft p_course p_trial p_imageZero p_imageOne p_ledDoughs p_ledOvens p_rowSearch p_course_rows v_keptImages v_ledCount v_traceSum v_course_knownSteps f_course_rows x3 u_3 hu_3) kRX4_112 [0, 2, 3] rfl rfl rfl rfl ⟨⟨(Nat.le_of_ble_eq_true rfl), (Nat.le_of_ble_eq_true rfl)⟩, Nat.zero_le _, Nat.zero_le _⟩ rfl rfl (Nat.le_of_ble_eq_true rfl) dX4_moved_44 (fun H locs hP hS => ?_)
      refine lv_if_eq (tgt := 66) hx hb dX4_moved_47 (by decide) (fun c_4 => ?_) (fun c_4 => ?_)
      · replace hf := ot c_4 hf
        refine lv_iinc (v := (x3 + (1 : Int32))) (lv' := [(3, .int (x3 + (1 : Int32))), (0, .ref p_this), (1, .int x1), (2, .int x2)]) hx hb dX4_moved_66 hl (k := 3) rfl rfl (by decide) rfl (fun ls hl => ?_)
        refine lv_goto (tgt := 31) hx hb dX4_moved_69 (by decide) ?_
        exact ih x1 x2 (x3 + (1 : Int32)) hf H locs ls (lv_sub hl [1, 2, 3, 0] rfl) hP hS
      · replace hf := of c_4 hf
        refine lv_aload_n hx hb dX4_moved_50 rfl (lv_at hl 0 rfl) ?_
        refine lv_iload_n hx hb dX4_moved_51 rfl (lv_at hl 3 rfl) ?_
        refine lv_iconst (v := (-1 : Int32)) hx hb dX4_moved_52 (by decide) ?_
        obtain ⟨u_5, hu_5, hf⟩ := ob hf
        refine pV X hK hA hP hS hl.1 (m_X4_noseOf (l := l) E p_this p_script p_told p_draft p_course p_trial p_imageZero p_imageOne p_ledDoughs p_ledOvens p_rowSearch p_told_ovenNumbers p_told_doughNumbers p_course_rows v_keptImages v_ledCount v_traceSum v_told_ovenCount v_told_doughCount v_course_knownSteps f_course_rows f_told_ovenNumbers f_told_doughNumbers x3 (-1 : Int32) u_5 hu_5) kRX4_115 [0, 1, 2, 3, 4, 5] rfl rfl rfl rfl ⟨⟨(Nat.le_of_ble_eq_true rfl), (Nat.le_of_ble_eq_true rfl)⟩, Nat.zero_le _, Nat.zero_le _⟩ rfl rfl (Nat.le_of_ble_eq_true rfl) dX4_moved_53 (fun H locs hP hS => ?_)
        refine lv_iload_n hx hb dX4_moved_56 rfl (lv_at hl 1 rfl) ?_
        refine lv_icmp_ne (tgt := 66) hx hb dX4_moved_57 (by decide) (fun c_6 => ?_) (fun c_6 => ?_)
        · replace hf := of c_6 hf
          refine lv_iinc (v := (x3 + (1 : Int32))) (lv' := [(3, .int (x3 + (1 : Int32))), (0, .ref p_this), (1, .int x1), (2, .int x2)]) hx hb dX4_moved_66 hl (k := 3) rfl rfl (by decide) rfl (fun ls hl => ?_)
          refine lv_goto (tgt := 31) hx hb dX4_moved_69 (by decide) ?_
          exact ih x1 x2 (x3 + (1 : Int32)) hf H locs ls (lv_sub hl [1, 2, 3, 0] rfl) hP hS
        · replace hf := ot c_6 hf
          refine lv_iload_n hx hb dX4_moved_60 rfl (lv_at hl 2 rfl) ?_
          refine lv_iconst (v := (1 : Int32)) hx hb dX4_moved_61 (by decide) ?_
          refine lv_iload_n hx hb dX4_moved_62 rfl (lv_at hl 3 rfl) ?_
          refine lv_ishl hx hb dX4_moved_63 ?_
          refine lv_ior hx hb dX4_moved_64 ?_
          refine lv_istore_n (lv' := [(2, .int (x2 ||| ((1 : Int32) <<< (x3 &&& 31)))), (0, .ref p_this), (1, .int x1), (3, .int x3)]) hx hb dX4_moved_65 rfl hl (by decide) rfl (fun ls hl => ?_)
          refine lv_iinc (v := (x3 + (1 : Int32))) (lv' := [(3, .int (x3 + (1 : Int32))), (2, .int (x2 ||| ((1 : Int32) <<< (x3 &&& 31)))), (0, .ref p_this), (1, .int x1)]) hx hb dX4_moved_66 hl (k := 3) rfl rfl (by decide) rfl (fun ls hl => ?_)
          refine lv_goto (tgt := 31) hx hb dX4_moved_69 (by decide) ?_
          exact ih x1 (x2 ||| ((1 : Int32) <<< (x3 &&& 31))) (x3 + (1 : Int32)) hf H locs ls (lv_sub hl [2, 3, 1, 0] rfl) hP hS

set_option maxHeartbeats 4000000 in
set_option maxRecDepth 100000 in
theorem m_X4_moved {l : Launch} (E : Ev) (p_this : Nat) (p_script : Nat) (p_told : Nat) (p_draft : Nat) (p_course : Nat) (p_trial : Nat) (p_imageZero : Nat) (p_imageOne : Nat) (p_ledDoughs : Nat) (p_ledOvens : Nat) (p_rowSearch : Nat) (p_told_ovenNumbers : Nat) (p_told_doughNumbers : Nat) (p_course_rows : Nat) (v_keptImages : Int32) (v_ledCount : Int32) (v_traceSum : Int64) (v_told_ovenCount : Int32) (v_told_doughCount : Int32) (v_course_knownSteps : Int32) (f_course_rows : Nat → Int32) (f_told_ovenNumbers : Nat → Int32) (f_told_doughNumbers : Nat → Int32) (x1 : Int32) (res : Int32) (hf : f_X4_moved  v_told_ovenCount v_told_doughCount v_course_knownSteps f_course_rows f_told_ovenNumbers f_told_doughNumbers x1 = some res) : PureI l E 6 yX4_moved cX4_moved 4 .int [.ref p_this, .int x1] (w_X4_moved E p_this p_script p_told p_draft p_course p_trial p_imageZero p_imageOne p_ledDoughs p_ledOvens p_rowSearch p_told_ovenNumbers p_told_doughNumbers p_course_rows v_keptImages v_ledCount v_traceSum v_told_ovenCount v_told_doughCount v_course_knownSteps f_course_rows f_told_ovenNumbers f_told_doughNumbers) res := by
  refine PureI.of (by decide) (Nat.le_of_ble_eq_true rfl) ?_
  intro p e s m args below meth c Q A X hK hA hret H locs ls hl hP hS
  obtain ⟨hx, hb, hml, hown, hts, hrt, hlk⟩ := id X
  have hl : lv_has ls 4 [(0, .ref p_this), (1, .int x1)] := hl
  unfold f_X4_moved at hf
  refine lv_aload_n hx hb dX4_moved_0 rfl (lv_at hl 0 rfl) ?_
  refine gf_RX4_19 X hK hP 0 rfl rfl dX4_moved_1 ?_
  refine lv_iload_n hx hb dX4_moved_4 rfl (lv_at hl 1 rfl) ?_
  obtain ⟨u_1, hu_1, hf⟩ := ob hf
  refine pV X hK hA hP hS hl.1 (m_X3_hasOven (l := l) E p_told p_told_ovenNumbers p_told_doughNumbers v_told_ovenCount v_told_doughCount x1 u_1 hu_1) kRX4_81 [1] rfl rfl rfl rfl ⟨⟨(Nat.le_of_ble_eq_true rfl), (Nat.le_of_ble_eq_true rfl)⟩, Nat.zero_le _, Nat.zero_le _⟩ rfl rfl (Nat.le_of_ble_eq_true rfl) dX4_moved_5 (fun H locs hP hS => ?_)
  refine lv_if_ne (tgt := 13) hx hb dX4_moved_8 (by decide) (fun c_2 => ?_) (fun c_2 => ?_)
  · replace hf := of c_2 hf
    refine lv_aload_n hx hb dX4_moved_13 rfl (lv_at hl 0 rfl) ?_
    refine gf_RX4_29 X hK hP 0 rfl rfl dX4_moved_14 ?_
    refine lv_iload_n hx hb dX4_moved_17 rfl (lv_at hl 1 rfl) ?_
    obtain ⟨u_3, hu_3, hf⟩ := ob hf
    refine pV X hK hA hP hS hl.1 (m_X0_isShut (l := l) E p_course p_course_rows v_course_knownSteps f_course_rows x1 u_3 hu_3) kRX4_96 [2, 3] rfl rfl rfl rfl ⟨⟨(Nat.le_of_ble_eq_true rfl), (Nat.le_of_ble_eq_true rfl)⟩, Nat.zero_le _, Nat.zero_le _⟩ rfl rfl (Nat.le_of_ble_eq_true rfl) dX4_moved_18 (fun H locs hP hS => ?_)
    refine lv_if_eq (tgt := 27) hx hb dX4_moved_21 (by decide) (fun c_4 => ?_) (fun c_4 => ?_)
    · replace hf := ot c_4 hf
      refine lv_iconst (v := (0 : Int32)) hx hb dX4_moved_27 (by decide) ?_
      refine lv_istore_n (lv' := [(2, .int (0 : Int32)), (0, .ref p_this), (1, .int x1)]) hx hb dX4_moved_28 rfl hl (by decide) rfl (fun ls hl => ?_)
      refine lv_iconst (v := (0 : Int32)) hx hb dX4_moved_29 (by decide) ?_
      refine lv_istore_n (lv' := [(3, .int (0 : Int32)), (2, .int (0 : Int32)), (0, .ref p_this), (1, .int x1)]) hx hb dX4_moved_30 rfl hl (by decide) rfl (fun ls hl => ?_)
      exact b_X4_moved_31 E p_this p_script p_told p_draft p_course p_trial p_imageZero p_imageOne p_ledDoughs p_ledOvens p_rowSearch p_told_ovenNumbers p_told_doughNumbers p_course_rows v_keptImages v_ledCount v_traceSum v_told_ovenCount v_told_doughCount v_course_knownSteps f_course_rows f_told_ovenNumbers f_told_doughNumbers res X hK hA hret   FU x1 (0 : Int32) (0 : Int32) hf H locs ls (lv_sub hl [2, 3, 1, 0] rfl) hP hS
    · replace hf := of c_4 hf
      refine lv_bipush (v := (-2 : Int32)) hx hb dX4_moved_24 (by decide) ?_
      obtain rfl := Option.some.inj hf
      exact hret H locs _ ls rfl hP hS dX4_moved_26
  · replace hf := ot c_2 hf
    refine lv_iconst (v := (-1 : Int32)) hx hb dX4_moved_11 (by decide) ?_
    obtain rfl := Option.some.inj hf
    exact hret H locs _ ls rfl hP hS dX4_moved_12

abbrev w_X4_order (E : Ev) (p_this : Nat) (p_script : Nat) (p_told : Nat) (p_draft : Nat) (p_course : Nat) (p_trial : Nat) (p_imageZero : Nat) (p_imageOne : Nat) (p_ledDoughs : Nat) (p_ledOvens : Nat) (p_rowSearch : Nat) (p_told_ovenNumbers : Nat) (p_told_doughNumbers : Nat) (p_rowSearch_row : Nat) (p_rowSearch_best : Nat) (p_rowSearch_bakingTimes : Nat) (p_course_rows : Nat) (v_keptImages : Int32) (v_ledCount : Int32) (v_traceSum : Int64) (v_told_ovenCount : Int32) (v_told_doughCount : Int32) (v_rowSearch_bestLength : Int32) (v_rowSearch_bestLastEnd : Int32) (v_rowSearch_limit : Int32) (v_course_knownSteps : Int32) (f_course_rows : Nat → Int32) (f_told_ovenNumbers : Nat → Int32) (f_told_doughNumbers : Nat → Int32) (f_rowSearch_bakingTimes : Nat → Int32) (f_rowSearch_row : Nat → Int32) (f_rowSearch_best : Nat → Int32) : va_W := [(p_this, .inr (4, [.ref p_script, .ref p_told, .ref p_draft, .ref p_course, .ref p_trial, .ref p_imageZero, .ref p_imageOne, .int v_keptImages, .ref p_ledDoughs, .ref p_ledOvens, .int v_ledCount, .ref p_rowSearch, .long v_traceSum])), (p_told, .inr (3, [.ref p_told_ovenNumbers, .ref p_told_doughNumbers, .int v_told_ovenCount, .int v_told_doughCount])), (p_rowSearch, .inr (1, [.ref p_rowSearch_row, .ref p_rowSearch_best, .ref p_rowSearch_bakingTimes, .int v_rowSearch_bestLength, .int v_rowSearch_bestLastEnd, .int v_rowSearch_limit])), (p_course, .inr (0, [.ref p_course_rows, .int v_course_knownSteps])), (p_course_rows, .inl (E.2.1, 154, .inl f_course_rows)), (p_told_ovenNumbers, .inl (E.2.1, 10, .inl f_told_ovenNumbers)), (p_told_doughNumbers, .inl (E.2.1, 30, .inl f_told_doughNumbers)), (p_rowSearch_bakingTimes, .inl (E.2.1, 6, .inl f_rowSearch_bakingTimes)), (p_rowSearch_row, .inl (E.2.1, 6, .inl f_rowSearch_row)), (p_rowSearch_best, .inl (E.2.1, 6, .inl f_rowSearch_best))]
set_option maxHeartbeats 4000000 in
set_option maxRecDepth 100000 in
theorem m_X4_order {l : Launch} (E : Ev) (p_this : Nat) (p_script : Nat) (p_told : Nat) (p_draft : Nat) (p_course : Nat) (p_trial : Nat) (p_imageZero : Nat) (p_imageOne : Nat) (p_ledDoughs : Nat) (p_ledOvens : Nat) (p_rowSearch : Nat) (p_told_ovenNumbers : Nat) (p_told_doughNumbers : Nat) (p_rowSearch_row : Nat) (p_rowSearch_best : Nat) (p_rowSearch_bakingTimes : Nat) (p_course_rows : Nat) (v_keptImages : Int32) (v_ledCount : Int32) (v_traceSum : Int64) (v_told_ovenCount : Int32) (v_told_doughCount : Int32) (v_rowSearch_bestLength : Int32) (v_rowSearch_bestLastEnd : Int32) (v_rowSearch_limit : Int32) (v_course_knownSteps : Int32) (f_course_rows : Nat → Int32) (f_told_ovenNumbers : Nat → Int32) (f_told_doughNumbers : Nat → Int32) (f_rowSearch_bakingTimes : Nat → Int32) (f_rowSearch_row : Nat → Int32) (f_rowSearch_best : Nat → Int32) (x1 : Int32) (x2 : Int32) (x3 : Int32) (res : Int32 × Int32 × Int32 × Int32 × (Nat → Int32) × (Nat → Int32) × (Nat → Int32)) (hf : f_X4_order  v_told_ovenCount v_told_doughCount v_course_knownSteps f_course_rows f_told_ovenNumbers f_told_doughNumbers v_rowSearch_bestLength v_rowSearch_bestLastEnd v_rowSearch_limit f_rowSearch_bakingTimes f_rowSearch_row f_rowSearch_best x1 x2 x3 = some res) : MutI l E 12 yX4_order cX4_order 4 .int [.ref p_this, .int x1, .int x2, .int x3] (w_X4_order E p_this p_script p_told p_draft p_course p_trial p_imageZero p_imageOne p_ledDoughs p_ledOvens p_rowSearch p_told_ovenNumbers p_told_doughNumbers p_rowSearch_row p_rowSearch_best p_rowSearch_bakingTimes p_course_rows v_keptImages v_ledCount v_traceSum v_told_ovenCount v_told_doughCount v_rowSearch_bestLength v_rowSearch_bestLastEnd v_rowSearch_limit v_course_knownSteps f_course_rows f_told_ovenNumbers f_told_doughNumbers f_rowSearch_bakingTimes f_rowSearch_row f_rowSearch_best) (w_X4_order E p_this p_script p_told p_draft p_course p_trial p_imageZero p_imageOne p_ledDoughs p_ledOvens p_rowSearch p_told_ovenNumbers p_told_doughNumbers p_rowSearch_row p_rowSearch_best p_rowSearch_bakingTimes p_course_rows v_keptImages v_ledCount v_traceSum v_told_ovenCount v_told_doughCount res.2.1 res.2.2.1 res.2.2.2.1 v_course_knownSteps f_course_rows f_told_ovenNumbers f_told_doughNumbers res.2.2.2.2.1 res.2.2.2.2.2.1 res.2.2.2.2.2.2) res.1 := by
  refine MutI.of (by decide) (Nat.le_of_ble_eq_true rfl) ?_
  intro p e s m args below meth c Q A X hK hA hret H locs ls hl hP hD hS
  obtain ⟨hx, hb, hml, hown, hts, hrt, hlk⟩ := id X
  have hl : lv_has ls 4 [(0, .ref p_this), (1, .int x1), (2, .int x2), (3, .int x3)] := hl
  unfold f_X4_order at hf
  refine lv_aload_n hx hb dX4_order_0 rfl (lv_at hl 0 rfl) ?_
  refine gf_RX4_19 X hK hP 0 rfl rfl dX4_order_1 ?_
  refine lv_iload_n hx hb dX4_order_4 rfl (lv_at hl 1 rfl) ?_
  obtain ⟨u_1, hu_1, hf⟩ := ob hf
  refine pV X hK hA hP hS hl.1 (m_X3_hasOven (l := l) E p_told p_told_ovenNumbers p_told_doughNumbers v_told_ovenCount v_told_doughCount x1 u_1 hu_1) kRX4_81 [1] rfl rfl rfl rfl ⟨⟨(Nat.le_of_ble_eq_true rfl), (Nat.le_of_ble_eq_true rfl)⟩, Nat.zero_le _, Nat.zero_le _⟩ rfl rfl (Nat.le_of_ble_eq_true rfl) dX4_order_5 (fun H locs hP hS => ?_)
  refine lv_if_eq (tgt := 34) hx hb dX4_order_8 (by decide) (fun c_2 => ?_) (fun c_2 => ?_)
  · replace hf := ot c_2 hf
    refine lv_iconst (v := (-1 : Int32)) hx hb dX4_order_34 (by decide) ?_
    obtain rfl := Option.some.inj hf
    exact hret H locs _ ls rfl hP hS dX4_order_35
  · replace hf := of c_2 hf
    refine lv_iload_n hx hb dX4_order_11 rfl (lv_at hl 2 rfl) ?_
    refine lv_if_lt (tgt := 34) hx hb dX4_order_12 (by decide) (fun c_3 => ?_) (fun c_3 => ?_)
    · replace hf := ot c_3 hf
      refine lv_iconst (v := (-1 : Int32)) hx hb dX4_order_34 (by decide) ?_
      obtain rfl := Option.some.inj hf
      exact hret H locs _ ls rfl hP hS dX4_order_35
    · replace hf := of c_3 hf
      refine lv_iload_n hx hb dX4_order_15 rfl (lv_at hl 2 rfl) ?_
      refine lv_sipush (v := (999 : Int32)) hx hb dX4_order_16 (by decide) ?_
      refine lv_icmp_gt (tgt := 34) hx hb dX4_order_19 (by decide) (fun c_4 => ?_) (fun c_4 => ?_)
      · replace hf := ot c_4 hf
        refine lv_iconst (v := (-1 : Int32)) hx hb dX4_order_34 (by decide) ?_
        obtain rfl := Option.some.inj hf
        exact hret H locs _ ls rfl hP hS dX4_order_35
      · replace hf := of c_4 hf
        refine lv_iload_n hx hb dX4_order_22 rfl (lv_at hl 3 rfl) ?_
        refine lv_bipush (v := (-2 : Int32)) hx hb dX4_order_23 (by decide) ?_
        refine lv_icmp_lt (tgt := 34) hx hb dX4_order_25 (by decide) (fun c_5 => ?_) (fun c_5 => ?_)
        · replace hf := ot c_5 hf
          refine lv_iconst (v := (-1 : Int32)) hx hb dX4_order_34 (by decide) ?_
          obtain rfl := Option.some.inj hf
          exact hret H locs _ ls rfl hP hS dX4_order_35
        · replace hf := of c_5 hf
          refine lv_iload_n hx hb dX4_order_28 rfl (lv_at hl 3 rfl) ?_
          refine lv_bipush (v := (6 : Int32)) hx hb dX4_order_29 (by decide) ?_
          refine lv_icmp_lt (tgt := 36) hx hb dX4_order_31 (by decide) (fun c_6 => ?_) (fun c_6 => ?_)
          · replace hf := ot c_6 hf
            refine lv_aload_n hx hb dX4_order_36 rfl (lv_at hl 0 rfl) ?_
            refine gf_RX4_52 X hK hP 0 rfl rfl dX4_order_37 ?_
            refine lv_aload_n hx hb dX4_order_40 rfl (lv_at hl 0 rfl) ?_
            refine gf_RX4_19 X hK hP 0 rfl rfl dX4_order_41 ?_
            refine lv_aload_n hx hb dX4_order_44 rfl (lv_at hl 0 rfl) ?_
            refine gf_RX4_29 X hK hP 0 rfl rfl dX4_order_45 ?_
            refine lv_iload_n hx hb dX4_order_48 rfl (lv_at hl 1 rfl) ?_
            refine lv_iload_n hx hb dX4_order_49 rfl (lv_at hl 2 rfl) ?_
            obtain ⟨u_7, hu_7, hf⟩ := ob hf
            refine mVv X hK hA hP hD hS hl.1 (m_X1_find (l := l) E p_rowSearch p_rowSearch_row p_rowSearch_best p_rowSearch_bakingTimes p_course p_course_rows p_told p_told_ovenNumbers p_told_doughNumbers v_rowSearch_bestLength v_rowSearch_bestLastEnd v_rowSearch_limit v_course_knownSteps v_told_ovenCount v_told_doughCount f_course_rows f_told_ovenNumbers f_told_doughNumbers f_rowSearch_bakingTimes f_rowSearch_row f_rowSearch_best x1 x2 u_7 hu_7) kRX4_168 [2, 3, 4, 1, 5, 6, 7, 8, 9] rfl rfl (by simp only [w_X1_find, List.map]) rfl rfl rfl ⟨⟨(Nat.le_of_ble_eq_true rfl), (Nat.le_of_ble_eq_true rfl)⟩, Nat.zero_le _, Nat.zero_le _⟩ rfl rfl (Nat.le_of_ble_eq_true rfl) dX4_order_50 (fun H locs hP hD hS => ?_)
            have hP : va_P E.1 classes (w_X4_order E p_this p_script p_told p_draft p_course p_trial p_imageZero p_imageOne p_ledDoughs p_ledOvens p_rowSearch p_told_ovenNumbers p_told_doughNumbers p_rowSearch_row p_rowSearch_best p_rowSearch_bakingTimes p_course_rows v_keptImages v_ledCount v_traceSum v_told_ovenCount v_told_doughCount u_7.1 u_7.2.1 u_7.2.2.1 v_course_knownSteps f_course_rows f_told_ovenNumbers f_told_doughNumbers u_7.2.2.2.1 u_7.2.2.2.2.1 u_7.2.2.2.2.2) H := hP
            have hD : va_D A (w_X4_order E p_this p_script p_told p_draft p_course p_trial p_imageZero p_imageOne p_ledDoughs p_ledOvens p_rowSearch p_told_ovenNumbers p_told_doughNumbers p_rowSearch_row p_rowSearch_best p_rowSearch_bakingTimes p_course_rows v_keptImages v_ledCount v_traceSum v_told_ovenCount v_told_doughCount u_7.1 u_7.2.1 u_7.2.2.1 v_course_knownSteps f_course_rows f_told_ovenNumbers f_told_doughNumbers u_7.2.2.2.1 u_7.2.2.2.2.1 u_7.2.2.2.2.2) := hD
            refine lv_iload_n hx hb dX4_order_53 rfl (lv_at hl 3 rfl) ?_
            refine lv_iconst (v := (-1 : Int32)) hx hb dX4_order_54 (by decide) ?_
            refine lv_icmp_ne (tgt := 66) hx hb dX4_order_55 (by decide) (fun c_8 => ?_) (fun c_8 => ?_)
            · replace hf := of c_8 hf
              refine lv_iload_n hx hb dX4_order_66 rfl (lv_at hl 3 rfl) ?_
              refine lv_bipush (v := (-2 : Int32)) hx hb dX4_order_67 (by decide) ?_
              refine lv_icmp_ne (tgt := 82) hx hb dX4_order_69 (by decide) (fun c_9 => ?_) (fun c_9 => ?_)
              · replace hf := of c_9 hf
                refine lv_aload_n hx hb dX4_order_82 rfl (lv_at hl 0 rfl) ?_
                refine gf_RX4_52 X hK hP 0 rfl rfl dX4_order_83 ?_
                refine lv_iload_n hx hb dX4_order_86 rfl (lv_at hl 3 rfl) ?_
                obtain ⟨u_10, hu_10, hf⟩ := ob hf
                refine pV X hK hA hP hS hl.1 (m_X1_bestAt (l := l) E p_rowSearch p_rowSearch_row p_rowSearch_best p_rowSearch_bakingTimes u_7.1 u_7.2.1 u_7.2.2.1 u_7.2.2.2.2.2 x3 u_10 hu_10) kRX4_178 [2, 9] rfl rfl rfl rfl ⟨⟨(Nat.le_of_ble_eq_true rfl), (Nat.le_of_ble_eq_true rfl)⟩, Nat.zero_le _, Nat.zero_le _⟩ rfl rfl (Nat.le_of_ble_eq_true rfl) dX4_order_87 (fun H locs hP hS => ?_)
                obtain rfl := Option.some.inj hf
                exact hret H locs _ ls rfl hP hS dX4_order_90
              · replace hf := ot c_9 hf
                refine lv_aload_n hx hb dX4_order_72 rfl (lv_at hl 0 rfl) ?_
                refine gf_RX4_52 X hK hP 0 rfl rfl dX4_order_73 ?_
                obtain ⟨u_11, hu_11, hf⟩ := ob hf
                refine pV X hK hA hP hS hl.1 (m_X1_bestEnd (l := l) E p_rowSearch p_rowSearch_row p_rowSearch_best p_rowSearch_bakingTimes u_7.1 u_7.2.1 u_7.2.2.1  u_11 hu_11) kRX4_175 [2] rfl rfl rfl rfl ⟨⟨(Nat.le_of_ble_eq_true rfl), (Nat.le_of_ble_eq_true rfl)⟩, Nat.zero_le _, Nat.zero_le _⟩ rfl rfl (Nat.le_of_ble_eq_true rfl) dX4_order_76 (fun H locs hP hS => ?_)
                refine lv_goto (tgt := 90) hx hb dX4_order_79 (by decide) ?_
                obtain rfl := Option.some.inj hf
                exact hret H locs _ ls rfl hP hS dX4_order_90
            · replace hf := ot c_8 hf
              refine lv_aload_n hx hb dX4_order_58 rfl (lv_at hl 0 rfl) ?_
              refine gf_RX4_52 X hK hP 0 rfl rfl dX4_order_59 ?_
              obtain ⟨u_12, hu_12, hf⟩ := ob hf
              refine pV X hK hA hP hS hl.1 (m_X1_bestCount (l := l) E p_rowSearch p_rowSearch_row p_rowSearch_best p_rowSearch_bakingTimes u_7.1 u_7.2.1 u_7.2.2.1  u_12 hu_12) kRX4_172 [2] rfl rfl rfl rfl ⟨⟨(Nat.le_of_ble_eq_true rfl), (Nat.le_of_ble_eq_true rfl)⟩, Nat.zero_le _, Nat.zero_le _⟩ rfl rfl (Nat.le_of_ble_eq_true rfl) dX4_order_62 (fun H locs hP hS => ?_)
              obtain rfl := Option.some.inj hf
              exact hret H locs _ ls rfl hP hS dX4_order_65
          · replace hf := of c_6 hf
            refine lv_iconst (v := (-1 : Int32)) hx hb dX4_order_34 (by decide) ?_
            obtain rfl := Option.some.inj hf
            exact hret H locs _ ls rfl hP hS dX4_order_35

abbrev w_X4_fire (E : Ev) (p_this : Nat) (p_script : Nat) (p_told : Nat) (p_draft : Nat) (p_course : Nat) (p_trial : Nat) (p_imageZero : Nat) (p_imageOne : Nat) (p_ledDoughs : Nat) (p_ledOvens : Nat) (p_rowSearch : Nat) (p_told_ovenNumbers : Nat) (p_told_doughNumbers : Nat) (v_keptImages : Int32) (v_ledCount : Int32) (v_traceSum : Int64) (v_told_ovenCount : Int32) (v_told_doughCount : Int32) (f_told_doughNumbers : Nat → Int32) : va_W := [(p_this, .inr (4, [.ref p_script, .ref p_told, .ref p_draft, .ref p_course, .ref p_trial, .ref p_imageZero, .ref p_imageOne, .int v_keptImages, .ref p_ledDoughs, .ref p_ledOvens, .int v_ledCount, .ref p_rowSearch, .long v_traceSum])), (p_told, .inr (3, [.ref p_told_ovenNumbers, .ref p_told_doughNumbers, .int v_told_ovenCount, .int v_told_doughCount])), (p_told_doughNumbers, .inl (E.2.1, 30, .inl f_told_doughNumbers))]
set_option maxHeartbeats 4000000 in
set_option maxRecDepth 100000 in
theorem m_X4_fire {l : Launch} (E : Ev) (p_this : Nat) (p_script : Nat) (p_told : Nat) (p_draft : Nat) (p_course : Nat) (p_trial : Nat) (p_imageZero : Nat) (p_imageOne : Nat) (p_ledDoughs : Nat) (p_ledOvens : Nat) (p_rowSearch : Nat) (p_told_ovenNumbers : Nat) (p_told_doughNumbers : Nat) (v_keptImages : Int32) (v_ledCount : Int32) (v_traceSum : Int64) (v_told_ovenCount : Int32) (v_told_doughCount : Int32) (f_told_doughNumbers : Nat → Int32) (x1 : Int32) (x2 : Int32) (res : Int32) (hf : f_X4_fire  v_told_doughCount f_told_doughNumbers x1 x2 = some res) : PureI l E 3 yX4_fire cX4_fire 4 .int [.ref p_this, .int x1, .int x2] (w_X4_fire E p_this p_script p_told p_draft p_course p_trial p_imageZero p_imageOne p_ledDoughs p_ledOvens p_rowSearch p_told_ovenNumbers p_told_doughNumbers v_keptImages v_ledCount v_traceSum v_told_ovenCount v_told_doughCount f_told_doughNumbers) res := by
  refine PureI.of (by decide) (Nat.le_of_ble_eq_true rfl) ?_
  intro p e s m args below meth c Q A X hK hA hret H locs ls hl hP hS
  obtain ⟨hx, hb, hml, hown, hts, hrt, hlk⟩ := id X
  have hl : lv_has ls 4 [(0, .ref p_this), (1, .int x1), (2, .int x2)] := hl
  unfold f_X4_fire at hf
  refine lv_aload_n hx hb dX4_fire_0 rfl (lv_at hl 0 rfl) ?_
  refine gf_RX4_19 X hK hP 0 rfl rfl dX4_fire_1 ?_
  refine lv_iload_n hx hb dX4_fire_4 rfl (lv_at hl 1 rfl) ?_
  obtain ⟨u_1, hu_1, hf⟩ := ob hf
  refine pV X hK hA hP hS hl.1 (m_X3_hasDough (l := l) E p_told p_told_ovenNumbers p_told_doughNumbers v_told_ovenCount v_told_doughCount x1 u_1 hu_1) kRX4_99 [1] rfl rfl rfl rfl ⟨⟨(Nat.le_of_ble_eq_true rfl), (Nat.le_of_ble_eq_true rfl)⟩, Nat.zero_le _, Nat.zero_le _⟩ rfl rfl (Nat.le_of_ble_eq_true rfl) dX4_fire_5 (fun H locs hP hS => ?_)
  refine lv_if_eq (tgt := 22) hx hb dX4_fire_8 (by decide) (fun c_2 => ?_) (fun c_2 => ?_)
  · replace hf := ot c_2 hf
    refine lv_iconst (v := (-1 : Int32)) hx hb dX4_fire_22 (by decide) ?_
    obtain rfl := Option.some.inj hf
    exact hret H locs _ ls rfl hP hS dX4_fire_23
  · replace hf := of c_2 hf
    refine lv_iload_n hx hb dX4_fire_11 rfl (lv_at hl 2 rfl) ?_
    refine lv_iconst (v := (1 : Int32)) hx hb dX4_fire_12 (by decide) ?_
    refine lv_icmp_lt (tgt := 22) hx hb dX4_fire_13 (by decide) (fun c_3 => ?_) (fun c_3 => ?_)
    · replace hf := ot c_3 hf
      refine lv_iconst (v := (-1 : Int32)) hx hb dX4_fire_22 (by decide) ?_
      obtain rfl := Option.some.inj hf
      exact hret H locs _ ls rfl hP hS dX4_fire_23
    · replace hf := of c_3 hf
      refine lv_iload_n hx hb dX4_fire_16 rfl (lv_at hl 2 rfl) ?_
      refine lv_bipush (v := (99 : Int32)) hx hb dX4_fire_17 (by decide) ?_
      refine lv_icmp_le (tgt := 24) hx hb dX4_fire_19 (by decide) (fun c_4 => ?_) (fun c_4 => ?_)
      · replace hf := ot c_4 hf
        refine lv_aload_n hx hb dX4_fire_24 rfl (lv_at hl 0 rfl) ?_
        refine gf_RX4_19 X hK hP 0 rfl rfl dX4_fire_25 ?_
        refine lv_iload_n hx hb dX4_fire_28 rfl (lv_at hl 1 rfl) ?_
        refine lv_iconst (v := (2 : Int32)) hx hb dX4_fire_29 (by decide) ?_
        obtain ⟨u_5, hu_5, hf⟩ := ob hf
        refine pV X hK hA hP hS hl.1 (m_X3_ofDough (l := l) E p_told p_told_ovenNumbers p_told_doughNumbers v_told_ovenCount v_told_doughCount f_told_doughNumbers x1 (2 : Int32) u_5 hu_5) kRX4_102 [1, 2] rfl rfl rfl rfl ⟨⟨(Nat.le_of_ble_eq_true rfl), (Nat.le_of_ble_eq_true rfl)⟩, Nat.zero_le _, Nat.zero_le _⟩ rfl rfl (Nat.le_of_ble_eq_true rfl) dX4_fire_30 (fun H locs hP hS => ?_)
        refine lv_iload_n hx hb dX4_fire_33 rfl (lv_at hl 2 rfl) ?_
        obtain ⟨u_6, hu_6, hf⟩ := ob hf
        refine pS X hK hA hP hS hl.1 (m_X4_dividedUp (l := l) E   u_5 x2 u_6 hu_6) kRX4_181 ⟨⟨(Nat.le_of_ble_eq_true rfl), (Nat.le_of_ble_eq_true rfl)⟩, Nat.zero_le _, Nat.zero_le _⟩ rfl rfl (Nat.le_of_ble_eq_true rfl) dX4_fire_34 (fun H locs hP hS => ?_)
        refine lv_istore_n (lv' := [(3, .int u_6), (0, .ref p_this), (1, .int x1), (2, .int x2)]) hx hb dX4_fire_37 rfl hl (by decide) rfl (fun ls hl => ?_)
        refine lv_iload_n hx hb dX4_fire_38 rfl (lv_at hl 0 rfl) ?_
        refine lv_bipush (v := (10 : Int32)) hx hb dX4_fire_39 (by decide) ?_
        refine lv_imul hx hb dX4_fire_41 ?_
        refine lv_bipush (v := (9 : Int32)) hx hb dX4_fire_42 (by decide) ?_
        obtain ⟨u_7, hu_7, hf⟩ := ob hf
        refine pS X hK hA hP hS hl.1 (m_X4_dividedUp (l := l) E   (u_6 * (10 : Int32)) (9 : Int32) u_7 hu_7) kRX4_181 ⟨⟨(Nat.le_of_ble_eq_true rfl), (Nat.le_of_ble_eq_true rfl)⟩, Nat.zero_le _, Nat.zero_le _⟩ rfl rfl (Nat.le_of_ble_eq_true rfl) dX4_fire_44 (fun H locs hP hS => ?_)
        obtain rfl := Option.some.inj hf
        exact hret H locs _ ls rfl hP hS dX4_fire_47
      · replace hf := of c_4 hf
        refine lv_iconst (v := (-1 : Int32)) hx hb dX4_fire_22 (by decide) ?_
        obtain rfl := Option.some.inj hf
        exact hret H locs _ ls rfl hP hS dX4_fire_23

abbrev w_X4_commonDivisor (E : Ev)   : va_W := []
set_option maxHeartbeats 4000000 in
set_option maxRecDepth 100000 in
theorem b_X4_commonDivisor_7 {p : Program} {l : Launch} {e : Env} {s : State} {m : MethodId} {args : Array Value} {below : List Frame} {meth : Method} {c : Code} {Q : State → Prop} {A : Nat → Prop} (E : Ev)  (res : Int32) (X : Cx p s m args meth c cX4_commonDivisor 6 RX4 (some .int)) (hK : KK E A s s.heap) (hA : ∀ q, s.heap.size ≤ q → A q) (hret : RetI p l e (RM 1) s m args below meth c Q E A cX4_commonDivisor .int (w_X4_commonDivisor E ) res)  : ∀ (n : Nat) (x2 : Int32) (x3 : Int32) (x4 : Int32), f_X4_commonDivisor_7    n x2 x3 x4 = some res → ∀ (H : Heap) (locs : List Loc) (ls : Array Slot), lv_has ls 6 [(2, .int x2), (3, .int x3), (4, .int x4)] → va_P E.1 classes (w_X4_commonDivisor E ) H → va_S A s.heap H locs → W p l e (RM 1) s m args below meth c H locs 0 0 Q (F0 m 7 ls []) := by
  obtain ⟨hx, hb, hml, hown, hts, hrt, hlk⟩ := id X
  intro n
  induction n with
  | zero => intro x2 x3 x4 hf; exact absurd hf (by simp [f_X4_commonDivisor_7])
  | succ n ih =>
    intro x2 x3 x4 hf H locs ls hl hP hS
    unfold f_X4_commonDivisor_7 at hf
    refine lv_iload hx hb dX4_commonDivisor_7 (lv_at hl 2 rfl) ?_
    refine lv_bipush (v := (64 : Int32)) hx hb dX4_commonDivisor_9 (by decide) ?_
    refine lv_icmp_ge (tgt := 34) hx hb dX4_commonDivisor_11 (by decide) (fun c_1 => ?_) (fun c_1 => ?_)
    · replace hf := ot c_1 hf
      refine lv_iload_n hx hb dX4_commonDivisor_34 rfl (lv_at hl 0 rfl) ?_
      obtain rfl := Option.some.inj hf
      exact hret H locs _ ls rfl hP hS dX4_commonDivisor_35
    · replace hf := of c_1 hf
      refine lv_iload_n hx hb dX4_commonDivisor_14 rfl (lv_at hl 1 rfl) ?_
      refine lv_if_le (tgt := 34) hx hb dX4_commonDivisor_15 (by decide) (fun c_2 => ?_) (fun c_2 => ?_)
      · replace hf := ot c_2 hf
        refine lv_iload_n hx hb dX4_commonDivisor_34 rfl (lv_at hl 0 rfl) ?_
        obtain rfl := Option.some.inj hf
        exact hret H locs _ ls rfl hP hS dX4_commonDivisor_35
      · replace hf := of c_2 hf
        refine lv_iload_n hx hb dX4_commonDivisor_18 rfl (lv_at hl 0 rfl) ?_
        refine lv_iload_n hx hb dX4_commonDivisor_19 rfl (lv_at hl 1 rfl) ?_
        obtain ⟨g_3, hf⟩ := og hf
        refine lv_irem hx hb dX4_commonDivisor_20 g_3 ?_
        refine lv_istore (lv' := [(5, .int (x2 - x2 / x3 * x3)), (2, .int x2), (3, .int x3), (4, .int x4)]) hx hb dX4_commonDivisor_21 hl (by decide) rfl (fun ls hl => ?_)
        refine lv_iload_n hx hb dX4_commonDivisor_23 rfl (lv_at hl 2 rfl) ?_
        refine lv_istore_n (lv' := [(2, .int x3), (5, .int (x2 - x2 / x3 * x3)), (3, .int x3), (4, .int x4)]) hx hb dX4_commonDivisor_24 rfl hl (by decide) rfl (fun ls hl => ?_)
        refine lv_iload hx hb dX4_commonDivisor_25 (lv_at hl 1 rfl) ?_
        refine lv_istore_n (lv' := [(3, .int (x2 - x2 / x3 * x3)), (2, .int x3), (5, .int (x2 - x2 / x3 * x3)), (4, .int x4)]) hx hb dX4_commonDivisor_27 rfl hl (by decide) rfl (fun ls hl => ?_)
        refine lv_iinc (v := (x4 + (1 : Int32))) (lv' := [(4, .int (x4 + (1 : Int32))), (3, .int (x2 - x2 / x3 * x3)), (2, .int x3), (5, .int (x2 - x2 / x3 * x3))]) hx hb dX4_commonDivisor_28 hl (k := 3) rfl rfl (by decide) rfl (fun ls hl => ?_)
        refine lv_goto (tgt := 7) hx hb dX4_commonDivisor_31 (by decide) ?_
        exact ih x3 (x2 - x2 / x3 * x3) (x4 + (1 : Int32)) hf H locs ls (lv_sub hl [2, 1, 0] rfl) hP hS

set_option maxHeartbeats 4000000 in
set_option maxRecDepth 100000 in
theorem m_X4_commonDivisor {l : Launch} (E : Ev)   (x0 : Int32) (x1 : Int32) (res : Int32) (hf : f_X4_commonDivisor   x0 x1 = some res) : PureI l E 1 yX4_commonDivisor cX4_commonDivisor 6 .int [.int x0, .int x1] [] res := by
  refine PureI.of (by decide) (Nat.le_of_ble_eq_true rfl) ?_
  intro p e s m args below meth c Q A X hK hA hret H locs ls hl hP hS
  obtain ⟨hx, hb, hml, hown, hts, hrt, hlk⟩ := id X
  have hl : lv_has ls 6 [(0, .int x0), (1, .int x1)] := hl
  unfold f_X4_commonDivisor at hf
  refine lv_iload_n hx hb dX4_commonDivisor_0 rfl (lv_at hl 0 rfl) ?_
  refine lv_istore_n (lv' := [(2, .int x0), (0, .int x0), (1, .int x1)]) hx hb dX4_commonDivisor_1 rfl hl (by decide) rfl (fun ls hl => ?_)
  refine lv_iload_n hx hb dX4_commonDivisor_2 rfl (lv_at hl 2 rfl) ?_
  refine lv_istore_n (lv' := [(3, .int x1), (2, .int x0), (0, .int x0), (1, .int x1)]) hx hb dX4_commonDivisor_3 rfl hl (by decide) rfl (fun ls hl => ?_)
  refine lv_iconst (v := (0 : Int32)) hx hb dX4_commonDivisor_4 (by decide) ?_
  refine lv_istore (lv' := [(4, .int (0 : Int32)), (3, .int x1), (2, .int x0), (0, .int x0), (1, .int x1)]) hx hb dX4_commonDivisor_5 hl (by decide) rfl (fun ls hl => ?_)
  exact b_X4_commonDivisor_7 E   res X hK hA hret   FU x0 x1 (0 : Int32) hf H locs ls (lv_sub hl [2, 1, 0] rfl) hP hS

abbrev w_X4_rivalsOf (E : Ev) (p_this : Nat) (p_script : Nat) (p_told : Nat) (p_draft : Nat) (p_course : Nat) (p_trial : Nat) (p_imageZero : Nat) (p_imageOne : Nat) (p_ledDoughs : Nat) (p_ledOvens : Nat) (p_rowSearch : Nat) (p_told_ovenNumbers : Nat) (p_told_doughNumbers : Nat) (p_course_rows : Nat) (v_keptImages : Int32) (v_ledCount : Int32) (v_traceSum : Int64) (v_told_ovenCount : Int32) (v_told_doughCount : Int32) (v_course_knownSteps : Int32) (f_told_ovenNumbers : Nat → Int32) (f_course_rows : Nat → Int32) (f_told_doughNumbers : Nat → Int32) : va_W := [(p_this, .inr (4, [.ref p_script, .ref p_told, .ref p_draft, .ref p_course, .ref p_trial, .ref p_imageZero, .ref p_imageOne, .int v_keptImages, .ref p_ledDoughs, .ref p_ledOvens, .int v_ledCount, .ref p_rowSearch, .long v_traceSum])), (p_told, .inr (3, [.ref p_told_ovenNumbers, .ref p_told_doughNumbers, .int v_told_ovenCount, .int v_told_doughCount])), (p_told_ovenNumbers, .inl (E.2.1, 10, .inl f_told_ovenNumbers)), (p_course, .inr (0, [.ref p_course_rows, .int v_course_knownSteps])), (p_course_rows, .inl (E.2.1, 154, .inl f_course_rows)), (p_told_doughNumbers, .inl (E.2.1, 30, .inl f_told_doughNumbers))]
set_option maxHeartbeats 4000000 in
set_option maxRecDepth 100000 in
theorem b_X4_rivalsOf_14 {p : Program} {l : Launch} {e : Env} {s : State} {m : MethodId} {args : Array Value} {below : List Frame} {meth : Method} {c : Code} {Q : State → Prop} {A : Nat → Prop} (E : Ev) (p_this : Nat) (p_script : Nat) (p_told : Nat) (p_draft : Nat) (p_course : Nat) (p_trial : Nat) (p_imageZero : Nat) (p_imageOne : Nat) (p_ledDoughs : Nat) (p_ledOvens : Nat) (p_rowSearch : Nat) (p_told_ovenNumbers : Nat) (p_told_doughNumbers : Nat) (p_course_rows : Nat) (v_keptImages : Int32) (v_ledCount : Int32) (v_traceSum : Int64) (v_told_ovenCount : Int32) (v_told_doughCount : Int32) (v_course_knownSteps : Int32) (f_told_ovenNumbers : Nat → Int32) (f_course_rows : Nat → Int32) (f_told_doughNumbers : Nat → Int32) (res : Int32) (X : Cx p s m args meth c cX4_rivalsOf 7 RX4 (some .int)) (hK : KK E A s s.heap) (hA : ∀ q, s.heap.size ≤ q → A q) (hret : RetI p l e (RM 5) s m args below meth c Q E A cX4_rivalsOf .int (w_X4_rivalsOf E p_this p_script p_told p_draft p_course p_trial p_imageZero p_imageOne p_ledDoughs p_ledOvens p_rowSearch p_told_ovenNumbers p_told_doughNumbers p_course_rows v_keptImages v_ledCount v_traceSum v_told_ovenCount v_told_doughCount v_course_knownSteps f_told_ovenNumbers f_course_rows f_told_doughNumbers) res)  : ∀ (n : Nat) (x1 : Int32) (x2 : Int32) (x3 : Int32) (x4 : Int32) (x5 : Int32), f_X4_rivalsOf_14 v_told_ovenCount v_told_doughCount v_course_knownSteps f_told_ovenNumbers f_course_rows f_told_doughNumbers   n x1 x2 x3 x4 x5 = some res → ∀ (H : Heap) (locs : List Loc) (ls : Array Slot), lv_has ls 7 [(0, .ref p_this), (1, .int x1), (2, .int x2), (3, .int x3), (4, .int x4), (5, .int x5)] → va_P E.1 classes (w_X4_rivalsOf E p_this p_script p_told p_draft p_course p_trial p_imageZero p_imageOne p_ledDoughs p_ledOvens p_rowSearch p_told_ovenNumbers p_told_doughNumbers p_course_rows v_keptImages v_ledCount v_traceSum v_told_ovenCount v_told_doughCount v_course_knownSteps f_told_ovenNumbers f_course_rows f_told_doughNumbers) H → va_S A s.heap H locs → W p l e (RM 5) s m args below meth c H locs 0 0 Q (F0 m 14 ls []) := by
  obtain ⟨hx, hb, hml, hown, hts, hrt, hlk⟩ := id X
  intro n
  induction n with
  | zero => intro x1 x2 x3 x4 x5 hf; exact absurd hf (by simp [f_X4_rivalsOf_14])
  | succ n ih =>
    intro x1 x2 x3 x4 x5 hf H locs ls hl hP hS
    unfold f_X4_rivalsOf_14 at hf
    refine lv_iload hx hb dX4_rivalsOf_14 (lv_at hl 5 rfl) ?_
    refine lv_aload_n hx hb dX4_rivalsOf_16 rfl (lv_at hl 0 rfl) ?_
    refine gf_RX4_19 X hK hP 0 rfl rfl dX4_rivalsOf_17 ?_
    obtain ⟨u_1, hu_1, hf⟩ := ob hf
    refine pV X hK hA hP hS hl.1 (m_X3_ovens (l := l) E p_told p_told_ovenNumbers p_told_doughNumbers v_told_ovenCount v_told_doughCount  u_1 hu_1) kRX4_193 [1] rfl rfl rfl rfl ⟨⟨(Nat.le_of_ble_eq_true rfl), (Nat.le_of_ble_eq_true rfl)⟩, Nat.zero_le _, Nat.zero_le _⟩ rfl rfl (Nat.le_of_ble_eq_true rfl) dX4_rivalsOf_20 (fun H locs hP hS => ?_)
    refine lv_icmp_ge (tgt := 81) hx hb dX4_rivalsOf_23 (by decide) (fun c_2 => ?_) (fun c_2 => ?_)
    · replace hf := ot c_2 hf
      refine lv_iload hx hb dX4_rivalsOf_81 (lv_at hl 4 rfl) ?_
      obtain rfl := Option.some.inj hf
      exact hret H locs _ ls rfl hP hS dX4_rivalsOf_83
    · replace hf := of c_2 hf
      refine lv_iload hx hb dX4_rivalsOf_26 (lv_at hl 5 rfl) ?_
      refine lv_iload_n hx hb dX4_rivalsOf_28 rfl (lv_at hl 1 rfl) ?_
      refine lv_icmp_eq (tgt := 75) hx hb dX4_rivalsOf_29 (by decide) (fun c_3 => ?_) (fun c_3 => ?_)
      · replace hf := ot c_3 hf
        refine lv_iinc (v := (x5 + (1 : Int32))) (lv' := [(5, .int (x5 + (1 : Int32))), (0, .ref p_this), (1, .int x1), (2, .int x2), (3, .int x3), (4, .int x4)]) hx hb dX4_rivalsOf_75 hl (k := 5) rfl rfl (by decide) rfl (fun ls hl => ?_)
        refine lv_goto (tgt := 14) hx hb dX4_rivalsOf_78 (by decide) ?_
        exact ih x1 x2 x3 x4 (x5 + (1 : Int32)) hf H locs ls (lv_sub hl [1, 2, 3, 4, 5, 0] rfl) hP hS
      · replace hf := of c_3 hf
        refine lv_aload_n hx hb dX4_rivalsOf_32 rfl (lv_at hl 0 rfl) ?_
        refine gf_RX4_29 X hK hP 0 rfl rfl dX4_rivalsOf_33 ?_
        refine lv_iload hx hb dX4_rivalsOf_36 (lv_at hl 5 rfl) ?_
        obtain ⟨u_4, hu_4, hf⟩ := ob hf
        refine pV X hK hA hP hS hl.1 (m_X0_isShut (l := l) E p_course p_course_rows v_course_knownSteps f_course_rows x5 u_4 hu_4) kRX4_96 [3, 4] rfl rfl rfl rfl ⟨⟨(Nat.le_of_ble_eq_true rfl), (Nat.le_of_ble_eq_true rfl)⟩, Nat.zero_le _, Nat.zero_le _⟩ rfl rfl (Nat.le_of_ble_eq_true rfl) dX4_rivalsOf_38 (fun H locs hP hS => ?_)
        refine lv_if_ne (tgt := 75) hx hb dX4_rivalsOf_41 (by decide) (fun c_5 => ?_) (fun c_5 => ?_)
        · replace hf := of c_5 hf
          refine lv_iinc (v := (x5 + (1 : Int32))) (lv' := [(5, .int (x5 + (1 : Int32))), (0, .ref p_this), (1, .int x1), (2, .int x2), (3, .int x3), (4, .int x4)]) hx hb dX4_rivalsOf_75 hl (k := 5) rfl rfl (by decide) rfl (fun ls hl => ?_)
          refine lv_goto (tgt := 14) hx hb dX4_rivalsOf_78 (by decide) ?_
          exact ih x1 x2 x3 x4 (x5 + (1 : Int32)) hf H locs ls (lv_sub hl [1, 2, 3, 4, 5, 0] rfl) hP hS
        · replace hf := ot c_5 hf
          refine lv_aload_n hx hb dX4_rivalsOf_44 rfl (lv_at hl 0 rfl) ?_
          refine lv_iload hx hb dX4_rivalsOf_45 (lv_at hl 5 rfl) ?_
          refine lv_iload_n hx hb dX4_rivalsOf_47 rfl (lv_at hl 2 rfl) ?_
          refine lv_iconst (v := (-1 : Int32)) hx hb dX4_rivalsOf_48 (by decide) ?_
          obtain ⟨u_6, hu_6, hf⟩ := ob hf
          refine pV X hK hA hP hS hl.1 (m_X4_smellOf (l := l) E p_this p_script p_told p_draft p_course p_trial p_imageZero p_imageOne p_ledDoughs p_ledOvens p_rowSearch p_told_ovenNumbers p_told_doughNumbers p_course_rows v_keptImages v_ledCount v_traceSum v_told_ovenCount v_told_doughCount v_course_knownSteps f_told_ovenNumbers f_course_rows f_told_doughNumbers x5 x2 (-1 : Int32) u_6 hu_6) kRX4_118 [0, 1, 2, 3, 4, 5] rfl rfl rfl rfl ⟨⟨(Nat.le_of_ble_eq_true rfl), (Nat.le_of_ble_eq_true rfl)⟩, Nat.zero_le _, Nat.zero_le _⟩ rfl rfl (Nat.le_of_ble_eq_true rfl) dX4_rivalsOf_49 (fun H locs hP hS => ?_)
          refine lv_istore (lv' := [(6, .int u_6), (0, .ref p_this), (1, .int x1), (2, .int x2), (3, .int x3), (4, .int x4), (5, .int x5)]) hx hb dX4_rivalsOf_52 hl (by decide) rfl (fun ls hl => ?_)
          refine lv_iload hx hb dX4_rivalsOf_54 (lv_at hl 0 rfl) ?_
          refine lv_iload_n hx hb dX4_rivalsOf_56 rfl (lv_at hl 4 rfl) ?_
          refine lv_icmp_gt (tgt := 72) hx hb dX4_rivalsOf_57 (by decide) (fun c_7 => ?_) (fun c_7 => ?_)
          · replace hf := ot c_7 hf
            refine lv_iinc (v := (x4 + (1 : Int32))) (lv' := [(4, .int (x4 + (1 : Int32))), (6, .int u_6), (0, .ref p_this), (1, .int x1), (2, .int x2), (3, .int x3), (5, .int x5)]) hx hb dX4_rivalsOf_72 hl (k := 5) rfl rfl (by decide) rfl (fun ls hl => ?_)
            refine lv_iinc (v := (x5 + (1 : Int32))) (lv' := [(5, .int (x5 + (1 : Int32))), (4, .int (x4 + (1 : Int32))), (6, .int u_6), (0, .ref p_this), (1, .int x1), (2, .int x2), (3, .int x3)]) hx hb dX4_rivalsOf_75 hl (k := 6) rfl rfl (by decide) rfl (fun ls hl => ?_)
            refine lv_goto (tgt := 14) hx hb dX4_rivalsOf_78 (by decide) ?_
            exact ih x1 x2 x3 (x4 + (1 : Int32)) (x5 + (1 : Int32)) hf H locs ls (lv_sub hl [3, 4, 5, 6, 1, 0] rfl) hP hS
          · replace hf := of c_7 hf
            refine lv_iload hx hb dX4_rivalsOf_60 (lv_at hl 0 rfl) ?_
            refine lv_iload_n hx hb dX4_rivalsOf_62 rfl (lv_at hl 4 rfl) ?_
            refine lv_icmp_ne (tgt := 75) hx hb dX4_rivalsOf_63 (by decide) (fun c_8 => ?_) (fun c_8 => ?_)
            · replace hf := of c_8 hf
              refine lv_iinc (v := (x5 + (1 : Int32))) (lv' := [(5, .int (x5 + (1 : Int32))), (6, .int u_6), (0, .ref p_this), (1, .int x1), (2, .int x2), (3, .int x3), (4, .int x4)]) hx hb dX4_rivalsOf_75 hl (k := 6) rfl rfl (by decide) rfl (fun ls hl => ?_)
              refine lv_goto (tgt := 14) hx hb dX4_rivalsOf_78 (by decide) ?_
              exact ih x1 x2 x3 x4 (x5 + (1 : Int32)) hf H locs ls (lv_sub hl [2, 3, 4, 5, 6, 0] rfl) hP hS
            · replace hf := ot c_8 hf
              refine lv_iload hx hb dX4_rivalsOf_66 (lv_at hl 6 rfl) ?_
              refine lv_iload_n hx hb dX4_rivalsOf_68 rfl (lv_at hl 2 rfl) ?_
              refine lv_icmp_ge (tgt := 75) hx hb dX4_rivalsOf_69 (by decide) (fun c_9 => ?_) (fun c_9 => ?_)
              · replace hf := ot c_9 hf
                refine lv_iinc (v := (x5 + (1 : Int32))) (lv' := [(5, .int (x5 + (1 : Int32))), (6, .int u_6), (0, .ref p_this), (1, .int x1), (2, .int x2), (3, .int x3), (4, .int x4)]) hx hb dX4_rivalsOf_75 hl (k := 6) rfl rfl (by decide) rfl (fun ls hl => ?_)
                refine lv_goto (tgt := 14) hx hb dX4_rivalsOf_78 (by decide) ?_
                exact ih x1 x2 x3 x4 (x5 + (1 : Int32)) hf H locs ls (lv_sub hl [2, 3, 4, 5, 6, 0] rfl) hP hS
              · replace hf := of c_9 hf
                refine lv_iinc (v := (x4 + (1 : Int32))) (lv' := [(4, .int (x4 + (1 : Int32))), (6, .int u_6), (0, .ref p_this), (1, .int x1), (2, .int x2), (3, .int x3), (5, .int x5)]) hx hb dX4_rivalsOf_72 hl (k := 5) rfl rfl (by decide) rfl (fun ls hl => ?_)
                refine lv_iinc (v := (x5 + (1 : Int32))) (lv' := [(5, .int (x5 + (1 : Int32))), (4, .int (x4 + (1 : Int32))), (6, .int u_6), (0, .ref p_this), (1, .int x1), (2, .int x2), (3, .int x3)]) hx hb dX4_rivalsOf_75 hl (k := 6) rfl rfl (by decide) rfl (fun ls hl => ?_)
                refine lv_goto (tgt := 14) hx hb dX4_rivalsOf_78 (by decide) ?_
                exact ih x1 x2 x3 (x4 + (1 : Int32)) (x5 + (1 : Int32)) hf H locs ls (lv_sub hl [3, 4, 5, 6, 1, 0] rfl) hP hS

set_option maxHeartbeats 4000000 in
set_option maxRecDepth 100000 in
theorem m_X4_rivalsOf {l : Launch} (E : Ev) (p_this : Nat) (p_script : Nat) (p_told : Nat) (p_draft : Nat) (p_course : Nat) (p_trial : Nat) (p_imageZero : Nat) (p_imageOne : Nat) (p_ledDoughs : Nat) (p_ledOvens : Nat) (p_rowSearch : Nat) (p_told_ovenNumbers : Nat) (p_told_doughNumbers : Nat) (p_course_rows : Nat) (v_keptImages : Int32) (v_ledCount : Int32) (v_traceSum : Int64) (v_told_ovenCount : Int32) (v_told_doughCount : Int32) (v_course_knownSteps : Int32) (f_told_ovenNumbers : Nat → Int32) (f_course_rows : Nat → Int32) (f_told_doughNumbers : Nat → Int32) (x1 : Int32) (x2 : Int32) (res : Int32) (hf : f_X4_rivalsOf  v_told_ovenCount v_told_doughCount v_course_knownSteps f_told_ovenNumbers f_course_rows f_told_doughNumbers x1 x2 = some res) : PureI l E 5 yX4_rivalsOf cX4_rivalsOf 7 .int [.ref p_this, .int x1, .int x2] (w_X4_rivalsOf E p_this p_script p_told p_draft p_course p_trial p_imageZero p_imageOne p_ledDoughs p_ledOvens p_rowSearch p_told_ovenNumbers p_told_doughNumbers p_course_rows v_keptImages v_ledCount v_traceSum v_told_ovenCount v_told_doughCount v_course_knownSteps f_told_ovenNumbers f_course_rows f_told_doughNumbers) res := by
  refine PureI.of (by decide) (Nat.le_of_ble_eq_true rfl) ?_
  intro p e s m args below meth c Q A X hK hA hret H locs ls hl hP hS
  obtain ⟨hx, hb, hml, hown, hts, hrt, hlk⟩ := id X
  have hl : lv_has ls 7 [(0, .ref p_this), (1, .int x1), (2, .int x2)] := hl
  unfold f_X4_rivalsOf at hf
  refine lv_aload_n hx hb dX4_rivalsOf_0 rfl (lv_at hl 0 rfl) ?_
  refine lv_iload_n hx hb dX4_rivalsOf_1 rfl (lv_at hl 1 rfl) ?_
  refine lv_iload_n hx hb dX4_rivalsOf_2 rfl (lv_at hl 2 rfl) ?_
  refine lv_iconst (v := (-1 : Int32)) hx hb dX4_rivalsOf_3 (by decide) ?_
  obtain ⟨u_1, hu_1, hf⟩ := ob hf
  refine pV X hK hA hP hS hl.1 (m_X4_smellOf (l := l) E p_this p_script p_told p_draft p_course p_trial p_imageZero p_imageOne p_ledDoughs p_ledOvens p_rowSearch p_told_ovenNumbers p_told_doughNumbers p_course_rows v_keptImages v_ledCount v_traceSum v_told_ovenCount v_told_doughCount v_course_knownSteps f_told_ovenNumbers f_course_rows f_told_doughNumbers x1 x2 (-1 : Int32) u_1 hu_1) kRX4_118 [0, 1, 2, 3, 4, 5] rfl rfl rfl rfl ⟨⟨(Nat.le_of_ble_eq_true rfl), (Nat.le_of_ble_eq_true rfl)⟩, Nat.zero_le _, Nat.zero_le _⟩ rfl rfl (Nat.le_of_ble_eq_true rfl) dX4_rivalsOf_4 (fun H locs hP hS => ?_)
  refine lv_istore_n (lv' := [(3, .int u_1), (0, .ref p_this), (1, .int x1), (2, .int x2)]) hx hb dX4_rivalsOf_7 rfl hl (by decide) rfl (fun ls hl => ?_)
  refine lv_iconst (v := (0 : Int32)) hx hb dX4_rivalsOf_8 (by decide) ?_
  refine lv_istore (lv' := [(4, .int (0 : Int32)), (3, .int u_1), (0, .ref p_this), (1, .int x1), (2, .int x2)]) hx hb dX4_rivalsOf_9 hl (by decide) rfl (fun ls hl => ?_)
  refine lv_iconst (v := (0 : Int32)) hx hb dX4_rivalsOf_11 (by decide) ?_
  refine lv_istore (lv' := [(5, .int (0 : Int32)), (4, .int (0 : Int32)), (3, .int u_1), (0, .ref p_this), (1, .int x1), (2, .int x2)]) hx hb dX4_rivalsOf_12 hl (by decide) rfl (fun ls hl => ?_)
  exact b_X4_rivalsOf_14 E p_this p_script p_told p_draft p_course p_trial p_imageZero p_imageOne p_ledDoughs p_ledOvens p_rowSearch p_told_ovenNumbers p_told_doughNumbers p_course_rows v_keptImages v_ledCount v_traceSum v_told_ovenCount v_told_doughCount v_course_knownSteps f_told_ovenNumbers f_course_rows f_told_doughNumbers res X hK hA hret   FU x1 x2 u_1 (0 : Int32) (0 : Int32) hf H locs ls (lv_sub hl [3, 4, 5, 2, 1, 0] rfl) hP hS

abbrev w_X4_odds (E : Ev) (p_this : Nat) (p_script : Nat) (p_told : Nat) (p_draft : Nat) (p_course : Nat) (p_trial : Nat) (p_imageZero : Nat) (p_imageOne : Nat) (p_ledDoughs : Nat) (p_ledOvens : Nat) (p_rowSearch : Nat) (p_told_ovenNumbers : Nat) (p_told_doughNumbers : Nat) (p_course_rows : Nat) (v_keptImages : Int32) (v_ledCount : Int32) (v_traceSum : Int64) (v_told_ovenCount : Int32) (v_told_doughCount : Int32) (v_course_knownSteps : Int32) (f_course_rows : Nat → Int32) (f_told_ovenNumbers : Nat → Int32) (f_told_doughNumbers : Nat → Int32) : va_W := [(p_this, .inr (4, [.ref p_script, .ref p_told, .ref p_draft, .ref p_course, .ref p_trial, .ref p_imageZero, .ref p_imageOne, .int v_keptImages, .ref p_ledDoughs, .ref p_ledOvens, .int v_ledCount, .ref p_rowSearch, .long v_traceSum])), (p_told, .inr (3, [.ref p_told_ovenNumbers, .ref p_told_doughNumbers, .int v_told_ovenCount, .int v_told_doughCount])), (p_course, .inr (0, [.ref p_course_rows, .int v_course_knownSteps])), (p_course_rows, .inl (E.2.1, 154, .inl f_course_rows)), (p_told_ovenNumbers, .inl (E.2.1, 10, .inl f_told_ovenNumbers)), (p_told_doughNumbers, .inl (E.2.1, 30, .inl f_told_doughNumbers))]
set_option maxHeartbeats 4000000 in
set_option maxRecDepth 100000 in
theorem b_X4_odds_127 {p : Program} {l : Launch} {e : Env} {s : State} {m : MethodId} {args : Array Value} {below : List Frame} {meth : Method} {c : Code} {Q : State → Prop} {A : Nat → Prop} (E : Ev) (p_this : Nat) (p_script : Nat) (p_told : Nat) (p_draft : Nat) (p_course : Nat) (p_trial : Nat) (p_imageZero : Nat) (p_imageOne : Nat) (p_ledDoughs : Nat) (p_ledOvens : Nat) (p_rowSearch : Nat) (p_told_ovenNumbers : Nat) (p_told_doughNumbers : Nat) (p_course_rows : Nat) (v_keptImages : Int32) (v_ledCount : Int32) (v_traceSum : Int64) (v_told_ovenCount : Int32) (v_told_doughCount : Int32) (v_course_knownSteps : Int32) (f_course_rows : Nat → Int32) (f_told_ovenNumbers : Nat → Int32) (f_told_doughNumbers : Nat → Int32) (res : Int32) (X : Cx p s m args meth c cX4_odds 9 RX4 (some .int)) (hK : KK E A s s.heap) (hA : ∀ q, s.heap.size ≤ q → A q) (hret : RetI p l e (RM 6) s m args below meth c Q E A cX4_odds .int (w_X4_odds E p_this p_script p_told p_draft p_course p_trial p_imageZero p_imageOne p_ledDoughs p_ledOvens p_rowSearch p_told_ovenNumbers p_told_doughNumbers p_course_rows v_keptImages v_ledCount v_traceSum v_told_ovenCount v_told_doughCount v_course_knownSteps f_course_rows f_told_ovenNumbers f_told_doughNumbers) res)  (x5 : Int32) (x6 : Int32) (k0 : Int32) (hf : f_X4_odds_127 v_told_ovenCount v_told_doughCount v_course_knownSteps f_course_rows f_told_ovenNumbers f_told_doughNumbers   x5 x6 k0 = some res) : ∀ (H : Heap) (locs : List Loc) (ls : Array Slot), lv_has ls 9 [(5, .int x5), (6, .int x6)] → va_P E.1 classes (w_X4_odds E p_this p_script p_told p_draft p_course p_trial p_imageZero p_imageOne p_ledDoughs p_ledOvens p_rowSearch p_told_ovenNumbers p_told_doughNumbers p_course_rows v_keptImages v_ledCount v_traceSum v_told_ovenCount v_told_doughCount v_course_knownSteps f_course_rows f_told_ovenNumbers f_told_doughNumbers) H → va_S A s.heap H locs → W p l e (RM 6) s m args below meth c H locs 0 0 Q (F0 m 127 ls [.int k0]) := by
  obtain ⟨hx, hb, hml, hown, hts, hrt, hlk⟩ := id X
  intro H locs ls hl hP hS
  unfold f_X4_odds_127 at hf
  refine lv_istore (lv' := [(7, .int k0), (5, .int x5), (6, .int x6)]) hx hb dX4_odds_127 hl (by decide) rfl (fun ls hl => ?_)
  refine lv_iload hx hb dX4_odds_129 (lv_at hl 2 rfl) ?_
  refine lv_iload hx hb dX4_odds_131 (lv_at hl 1 rfl) ?_
  obtain ⟨u_1, hu_1, hf⟩ := ob hf
  refine pS X hK hA hP hS hl.1 (m_X4_commonDivisor (l := l) E   x6 x5 u_1 hu_1) kRX4_187 ⟨⟨(Nat.le_of_ble_eq_true rfl), (Nat.le_of_ble_eq_true rfl)⟩, Nat.zero_le _, Nat.zero_le _⟩ rfl rfl (Nat.le_of_ble_eq_true rfl) dX4_odds_133 (fun H locs hP hS => ?_)
  refine lv_istore (lv' := [(8, .int u_1), (7, .int k0), (5, .int x5), (6, .int x6)]) hx hb dX4_odds_136 hl (by decide) rfl (fun ls hl => ?_)
  refine lv_iload hx hb dX4_odds_138 (lv_at hl 0 rfl) ?_
  refine lv_if_le (tgt := 151) hx hb dX4_odds_140 (by decide) (fun c_2 => ?_) (fun c_2 => ?_)
  · replace hf := ot c_2 hf
    refine lv_iload hx hb dX4_odds_151 (lv_at hl 1 rfl) ?_
    obtain rfl := Option.some.inj hf
    exact hret H locs _ ls rfl hP hS dX4_odds_153
  · replace hf := of c_2 hf
    refine lv_iload hx hb dX4_odds_143 (lv_at hl 1 rfl) ?_
    refine lv_iload hx hb dX4_odds_145 (lv_at hl 0 rfl) ?_
    obtain ⟨g_3, hf⟩ := og hf
    refine lv_idiv hx hb dX4_odds_147 g_3 ?_
    refine lv_goto (tgt := 153) hx hb dX4_odds_148 (by decide) ?_
    obtain rfl := Option.some.inj hf
    exact hret H locs _ ls rfl hP hS dX4_odds_153

set_option maxHeartbeats 4000000 in
set_option maxRecDepth 100000 in
theorem b_X4_odds_91 {p : Program} {l : Launch} {e : Env} {s : State} {m : MethodId} {args : Array Value} {below : List Frame} {meth : Method} {c : Code} {Q : State → Prop} {A : Nat → Prop} (E : Ev) (p_this : Nat) (p_script : Nat) (p_told : Nat) (p_draft : Nat) (p_course : Nat) (p_trial : Nat) (p_imageZero : Nat) (p_imageOne : Nat) (p_ledDoughs : Nat) (p_ledOvens : Nat) (p_rowSearch : Nat) (p_told_ovenNumbers : Nat) (p_told_doughNumbers : Nat) (p_course_rows : Nat) (v_keptImages : Int32) (v_ledCount : Int32) (v_traceSum : Int64) (v_told_ovenCount : Int32) (v_told_doughCount : Int32) (v_course_knownSteps : Int32) (f_course_rows : Nat → Int32) (f_told_ovenNumbers : Nat → Int32) (f_told_doughNumbers : Nat → Int32) (res : Int32) (X : Cx p s m args meth c cX4_odds 9 RX4 (some .int)) (hK : KK E A s s.heap) (hA : ∀ q, s.heap.size ≤ q → A q) (hret : RetI p l e (RM 6) s m args below meth c Q E A cX4_odds .int (w_X4_odds E p_this p_script p_told p_draft p_course p_trial p_imageZero p_imageOne p_ledDoughs p_ledOvens p_rowSearch p_told_ovenNumbers p_told_doughNumbers p_course_rows v_keptImages v_ledCount v_traceSum v_told_ovenCount v_told_doughCount v_course_knownSteps f_course_rows f_told_ovenNumbers f_told_doughNumbers) res)  : ∀ (n : Nat) (x3 : Int32) (x4 : Int32) (x5 : Int32) (x6 : Int32) (x7 : Int32), f_X4_odds_91 v_told_ovenCount v_told_doughCount v_course_knownSteps f_course_rows f_told_ovenNumbers f_told_doughNumbers   n x3 x4 x5 x6 x7 = some res → ∀ (H : Heap) (locs : List Loc) (ls : Array Slot), lv_has ls 9 [(3, .int x3), (4, .int x4), (5, .int x5), (6, .int x6), (7, .int x7)] → va_P E.1 classes (w_X4_odds E p_this p_script p_told p_draft p_course p_trial p_imageZero p_imageOne p_ledDoughs p_ledOvens p_rowSearch p_told_ovenNumbers p_told_doughNumbers p_course_rows v_keptImages v_ledCount v_traceSum v_told_ovenCount v_told_doughCount v_course_knownSteps f_course_rows f_told_ovenNumbers f_told_doughNumbers) H → va_S A s.heap H locs → W p l e (RM 6) s m args below meth c H locs 0 0 Q (F0 m 91 ls []) := by
  obtain ⟨hx, hb, hml, hown, hts, hrt, hlk⟩ := id X
  intro n
  induction n with
  | zero => intro x3 x4 x5 x6 x7 hf; exact absurd hf (by simp [f_X4_odds_91])
  | succ n ih =>
    intro x3 x4 x5 x6 x7 hf H locs ls hl hP hS
    unfold f_X4_odds_91 at hf
    refine lv_iload hx hb dX4_odds_91 (lv_at hl 4 rfl) ?_
    refine lv_if_le (tgt := 115) hx hb dX4_odds_93 (by decide) (fun c_1 => ?_) (fun c_1 => ?_)
    · replace hf := ot c_1 hf
      refine lv_iload hx hb dX4_odds_115 (lv_at hl 1 rfl) ?_
      refine lv_if_ne (tgt := 125) hx hb dX4_odds_117 (by decide) (fun c_2 => ?_) (fun c_2 => ?_)
      · replace hf := of c_2 hf
        refine lv_iload hx hb dX4_odds_125 (lv_at hl 3 rfl) ?_
        exact b_X4_odds_127 E p_this p_script p_told p_draft p_course p_trial p_imageZero p_imageOne p_ledDoughs p_ledOvens p_rowSearch p_told_ovenNumbers p_told_doughNumbers p_course_rows v_keptImages v_ledCount v_traceSum v_told_ovenCount v_told_doughCount v_course_knownSteps f_course_rows f_told_ovenNumbers f_told_doughNumbers res X hK hA hret   x5 x6 x6 hf H locs ls (lv_sub hl [2, 3] rfl) hP hS
      · replace hf := ot c_2 hf
        refine lv_iload hx hb dX4_odds_120 (lv_at hl 2 rfl) ?_
        refine lv_goto (tgt := 127) hx hb dX4_odds_122 (by decide) ?_
        exact b_X4_odds_127 E p_this p_script p_told p_draft p_course p_trial p_imageZero p_imageOne p_ledDoughs p_ledOvens p_rowSearch p_told_ovenNumbers p_told_doughNumbers p_course_rows v_keptImages v_ledCount v_traceSum v_told_ovenCount v_told_doughCount v_course_knownSteps f_course_rows f_told_ovenNumbers f_told_doughNumbers res X hK hA hret   x5 x6 x5 hf H locs ls (lv_sub hl [2, 3] rfl) hP hS
    · replace hf := of c_1 hf
      refine lv_iload hx hb dX4_odds_96 (lv_at hl 2 rfl) ?_
      refine lv_iload_n hx hb dX4_odds_98 rfl (lv_at hl 0 rfl) ?_
      refine lv_imul hx hb dX4_odds_99 ?_
      refine lv_istore (lv' := [(5, .int (x5 * x3)), (3, .int x3), (4, .int x4), (6, .int x6), (7, .int x7)]) hx hb dX4_odds_100 hl (by decide) rfl (fun ls hl => ?_)
      refine lv_iload hx hb dX4_odds_102 (lv_at hl 3 rfl) ?_
      refine lv_bipush (v := (10 : Int32)) hx hb dX4_odds_104 (by decide) ?_
      refine lv_imul hx hb dX4_odds_106 ?_
      refine lv_istore (lv' := [(6, .int (x6 * (10 : Int32))), (5, .int (x5 * x3)), (3, .int x3), (4, .int x4), (7, .int x7)]) hx hb dX4_odds_107 hl (by decide) rfl (fun ls hl => ?_)
      refine lv_iinc (v := (x7 + (-1 : Int32))) (lv' := [(7, .int (x7 + (-1 : Int32))), (6, .int (x6 * (10 : Int32))), (5, .int (x5 * x3)), (3, .int x3), (4, .int x4)]) hx hb dX4_odds_109 hl (k := 4) rfl rfl (by decide) rfl (fun ls hl => ?_)
      refine lv_goto (tgt := 91) hx hb dX4_odds_112 (by decide) ?_
      exact ih x3 x4 (x5 * x3) (x6 * (10 : Int32)) (x7 + (-1 : Int32)) hf H locs ls (lv_sub hl [3, 4, 2, 1, 0] rfl) hP hS

set_option maxHeartbeats 4000000 in
set_option maxRecDepth 100000 in
theorem b_X4_odds_77 {p : Program} {l : Launch} {e : Env} {s : State} {m : MethodId} {args : Array Value} {below : List Frame} {meth : Method} {c : Code} {Q : State → Prop} {A : Nat → Prop} (E : Ev) (p_this : Nat) (p_script : Nat) (p_told : Nat) (p_draft : Nat) (p_course : Nat) (p_trial : Nat) (p_imageZero : Nat) (p_imageOne : Nat) (p_ledDoughs : Nat) (p_ledOvens : Nat) (p_rowSearch : Nat) (p_told_ovenNumbers : Nat) (p_told_doughNumbers : Nat) (p_course_rows : Nat) (v_keptImages : Int32) (v_ledCount : Int32) (v_traceSum : Int64) (v_told_ovenCount : Int32) (v_told_doughCount : Int32) (v_course_knownSteps : Int32) (f_course_rows : Nat → Int32) (f_told_ovenNumbers : Nat → Int32) (f_told_doughNumbers : Nat → Int32) (res : Int32) (X : Cx p s m args meth c cX4_odds 9 RX4 (some .int)) (hK : KK E A s s.heap) (hA : ∀ q, s.heap.size ≤ q → A q) (hret : RetI p l e (RM 6) s m args below meth c Q E A cX4_odds .int (w_X4_odds E p_this p_script p_told p_draft p_course p_trial p_imageZero p_imageOne p_ledDoughs p_ledOvens p_rowSearch p_told_ovenNumbers p_told_doughNumbers p_course_rows v_keptImages v_ledCount v_traceSum v_told_ovenCount v_told_doughCount v_course_knownSteps f_course_rows f_told_ovenNumbers f_told_doughNumbers) res)  (x1 : Int32) (x2 : Int32) (x3 : Int32) (x4 : Int32) (k0 : Int32) (hf : f_X4_odds_77 v_told_ovenCount v_told_doughCount v_course_knownSteps f_course_rows f_told_ovenNumbers f_told_doughNumbers   x1 x2 x3 x4 k0 = some res) : ∀ (H : Heap) (locs : List Loc) (ls : Array Slot), lv_has ls 9 [(0, .ref p_this), (1, .int x1), (2, .int x2), (3, .int x3), (4, .int x4)] → va_P E.1 classes (w_X4_odds E p_this p_script p_told p_draft p_course p_trial p_imageZero p_imageOne p_ledDoughs p_ledOvens p_rowSearch p_told_ovenNumbers p_told_doughNumbers p_course_rows v_keptImages v_ledCount v_traceSum v_told_ovenCount v_told_doughCount v_course_knownSteps f_course_rows f_told_ovenNumbers f_told_doughNumbers) H → va_S A s.heap H locs → W p l e (RM 6) s m args below meth c H locs 0 0 Q (F0 m 77 ls [.int k0]) := by
  obtain ⟨hx, hb, hml, hown, hts, hrt, hlk⟩ := id X
  intro H locs ls hl hP hS
  unfold f_X4_odds_77 at hf
  refine lv_istore (lv' := [(5, .int k0), (0, .ref p_this), (1, .int x1), (2, .int x2), (3, .int x3), (4, .int x4)]) hx hb dX4_odds_77 hl (by decide) rfl (fun ls hl => ?_)
  refine lv_bipush (v := (10 : Int32)) hx hb dX4_odds_79 (by decide) ?_
  refine lv_istore (lv' := [(6, .int (10 : Int32)), (5, .int k0), (0, .ref p_this), (1, .int x1), (2, .int x2), (3, .int x3), (4, .int x4)]) hx hb dX4_odds_81 hl (by decide) rfl (fun ls hl => ?_)
  refine lv_aload_n hx hb dX4_odds_83 rfl (lv_at hl 2 rfl) ?_
  refine lv_iload_n hx hb dX4_odds_84 rfl (lv_at hl 4 rfl) ?_
  refine lv_iload_n hx hb dX4_odds_85 rfl (lv_at hl 3 rfl) ?_
  obtain ⟨u_1, hu_1, hf⟩ := ob hf
  refine pV X hK hA hP hS hl.1 (m_X4_rivalsOf (l := l) E p_this p_script p_told p_draft p_course p_trial p_imageZero p_imageOne p_ledDoughs p_ledOvens p_rowSearch p_told_ovenNumbers p_told_doughNumbers p_course_rows v_keptImages v_ledCount v_traceSum v_told_ovenCount v_told_doughCount v_course_knownSteps f_told_ovenNumbers f_course_rows f_told_doughNumbers x2 x1 u_1 hu_1) kRX4_184 [0, 1, 4, 2, 3, 5] rfl rfl rfl rfl ⟨⟨(Nat.le_of_ble_eq_true rfl), (Nat.le_of_ble_eq_true rfl)⟩, Nat.zero_le _, Nat.zero_le _⟩ rfl rfl (Nat.le_of_ble_eq_true rfl) dX4_odds_86 (fun H locs hP hS => ?_)
  refine lv_istore (lv' := [(7, .int u_1), (6, .int (10 : Int32)), (5, .int k0), (0, .ref p_this), (1, .int x1), (2, .int x2), (3, .int x3), (4, .int x4)]) hx hb dX4_odds_89 hl (by decide) rfl (fun ls hl => ?_)
  exact b_X4_odds_91 E p_this p_script p_told p_draft p_course p_trial p_imageZero p_imageOne p_ledDoughs p_ledOvens p_rowSearch p_told_ovenNumbers p_told_doughNumbers p_course_rows v_keptImages v_ledCount v_traceSum v_told_ovenCount v_told_doughCount v_course_knownSteps f_course_rows f_told_ovenNumbers f_told_doughNumbers res X hK hA hret   FU x3 x4 k0 (10 : Int32) u_1 hf H locs ls (lv_sub hl [6, 7, 2, 1, 0] rfl) hP hS

set_option maxHeartbeats 4000000 in
set_option maxRecDepth 100000 in
theorem b_X4_odds_47 {p : Program} {l : Launch} {e : Env} {s : State} {m : MethodId} {args : Array Value} {below : List Frame} {meth : Method} {c : Code} {Q : State → Prop} {A : Nat → Prop} (E : Ev) (p_this : Nat) (p_script : Nat) (p_told : Nat) (p_draft : Nat) (p_course : Nat) (p_trial : Nat) (p_imageZero : Nat) (p_imageOne : Nat) (p_ledDoughs : Nat) (p_ledOvens : Nat) (p_rowSearch : Nat) (p_told_ovenNumbers : Nat) (p_told_doughNumbers : Nat) (p_course_rows : Nat) (v_keptImages : Int32) (v_ledCount : Int32) (v_traceSum : Int64) (v_told_ovenCount : Int32) (v_told_doughCount : Int32) (v_course_knownSteps : Int32) (f_course_rows : Nat → Int32) (f_told_ovenNumbers : Nat → Int32) (f_told_doughNumbers : Nat → Int32) (res : Int32) (X : Cx p s m args meth c cX4_odds 9 RX4 (some .int)) (hK : KK E A s s.heap) (hA : ∀ q, s.heap.size ≤ q → A q) (hret : RetI p l e (RM 6) s m args below meth c Q E A cX4_odds .int (w_X4_odds E p_this p_script p_told p_draft p_course p_trial p_imageZero p_imageOne p_ledDoughs p_ledOvens p_rowSearch p_told_ovenNumbers p_told_doughNumbers p_course_rows v_keptImages v_ledCount v_traceSum v_told_ovenCount v_told_doughCount v_course_knownSteps f_course_rows f_told_ovenNumbers f_told_doughNumbers) res)  (x1 : Int32) (x2 : Int32) (x3 : Int32) (x4 : Int32) (hf : f_X4_odds_47 v_told_ovenCount v_told_doughCount v_course_knownSteps f_course_rows f_told_ovenNumbers f_told_doughNumbers   x1 x2 x3 x4 = some res) : ∀ (H : Heap) (locs : List Loc) (ls : Array Slot), lv_has ls 9 [(0, .ref p_this), (1, .int x1), (2, .int x2), (3, .int x3), (4, .int x4)] → va_P E.1 classes (w_X4_odds E p_this p_script p_told p_draft p_course p_trial p_imageZero p_imageOne p_ledDoughs p_ledOvens p_rowSearch p_told_ovenNumbers p_told_doughNumbers p_course_rows v_keptImages v_ledCount v_traceSum v_told_ovenCount v_told_doughCount v_course_knownSteps f_course_rows f_told_ovenNumbers f_told_doughNumbers) H → va_S A s.heap H locs → W p l e (RM 6) s m args below meth c H locs 0 0 Q (F0 m 47 ls []) := by
  obtain ⟨hx, hb, hml, hown, hts, hrt, hlk⟩ := id X
  intro H locs ls hl hP hS
  unfold f_X4_odds_47 at hf
  refine lv_aload_n hx hb dX4_odds_47 rfl (lv_at hl 0 rfl) ?_
  refine lv_iload_n hx hb dX4_odds_48 rfl (lv_at hl 1 rfl) ?_
  obtain ⟨u_1, hu_1, hf⟩ := ob hf
  refine pV X hK hA hP hS hl.1 (m_X4_isOut (l := l) E p_this p_script p_told p_draft p_course p_trial p_imageZero p_imageOne p_ledDoughs p_ledOvens p_rowSearch p_course_rows v_keptImages v_ledCount v_traceSum v_course_knownSteps f_course_rows x1 u_1 hu_1) kRX4_112 [0, 2, 3] rfl rfl rfl rfl ⟨⟨(Nat.le_of_ble_eq_true rfl), (Nat.le_of_ble_eq_true rfl)⟩, Nat.zero_le _, Nat.zero_le _⟩ rfl rfl (Nat.le_of_ble_eq_true rfl) dX4_odds_49 (fun H locs hP hS => ?_)
  refine lv_if_ne (tgt := 58) hx hb dX4_odds_52 (by decide) (fun c_2 => ?_) (fun c_2 => ?_)
  · replace hf := of c_2 hf
    refine lv_aload_n hx hb dX4_odds_58 rfl (lv_at hl 0 rfl) ?_
    refine gf_RX4_29 X hK hP 0 rfl rfl dX4_odds_59 ?_
    refine lv_iload_n hx hb dX4_odds_62 rfl (lv_at hl 2 rfl) ?_
    obtain ⟨u_3, hu_3, hf⟩ := ob hf
    refine pV X hK hA hP hS hl.1 (m_X0_isShut (l := l) E p_course p_course_rows v_course_knownSteps f_course_rows x2 u_3 hu_3) kRX4_96 [2, 3] rfl rfl rfl rfl ⟨⟨(Nat.le_of_ble_eq_true rfl), (Nat.le_of_ble_eq_true rfl)⟩, Nat.zero_le _, Nat.zero_le _⟩ rfl rfl (Nat.le_of_ble_eq_true rfl) dX4_odds_63 (fun H locs hP hS => ?_)
    refine lv_if_eq (tgt := 73) hx hb dX4_odds_66 (by decide) (fun c_4 => ?_) (fun c_4 => ?_)
    · replace hf := ot c_4 hf
      refine lv_bipush (v := (10 : Int32)) hx hb dX4_odds_73 (by decide) ?_
      refine lv_iload_n hx hb dX4_odds_75 rfl (lv_at hl 3 rfl) ?_
      refine lv_isub hx hb dX4_odds_76 ?_
      exact b_X4_odds_77 E p_this p_script p_told p_draft p_course p_trial p_imageZero p_imageOne p_ledDoughs p_ledOvens p_rowSearch p_told_ovenNumbers p_told_doughNumbers p_course_rows v_keptImages v_ledCount v_traceSum v_told_ovenCount v_told_doughCount v_course_knownSteps f_course_rows f_told_ovenNumbers f_told_doughNumbers res X hK hA hret   x1 x2 x3 x4 ((10 : Int32) - x3) hf H locs ls (lv_sub hl [0, 1, 2, 3, 4] rfl) hP hS
    · replace hf := of c_4 hf
      refine lv_iconst (v := (0 : Int32)) hx hb dX4_odds_69 (by decide) ?_
      refine lv_goto (tgt := 77) hx hb dX4_odds_70 (by decide) ?_
      exact b_X4_odds_77 E p_this p_script p_told p_draft p_course p_trial p_imageZero p_imageOne p_ledDoughs p_ledOvens p_rowSearch p_told_ovenNumbers p_told_doughNumbers p_course_rows v_keptImages v_ledCount v_traceSum v_told_ovenCount v_told_doughCount v_course_knownSteps f_course_rows f_told_ovenNumbers f_told_doughNumbers res X hK hA hret   x1 x2 x3 x4 (0 : Int32) hf H locs ls (lv_sub hl [0, 1, 2, 3, 4] rfl) hP hS
  · replace hf := ot c_2 hf
    refine lv_bipush (v := (-2 : Int32)) hx hb dX4_odds_55 (by decide) ?_
    obtain rfl := Option.some.inj hf
    exact hret H locs _ ls rfl hP hS dX4_odds_57

set_option maxHeartbeats 4000000 in
set_option maxRecDepth 100000 in
theorem m_X4_odds {l : Launch} (E : Ev) (p_this : Nat) (p_script : Nat) (p_told : Nat) (p_draft : Nat) (p_course : Nat) (p_trial : Nat) (p_imageZero : Nat) (p_imageOne : Nat) (p_ledDoughs : Nat) (p_ledOvens : Nat) (p_rowSearch : Nat) (p_told_ovenNumbers : Nat) (p_told_doughNumbers : Nat) (p_course_rows : Nat) (v_keptImages : Int32) (v_ledCount : Int32) (v_traceSum : Int64) (v_told_ovenCount : Int32) (v_told_doughCount : Int32) (v_course_knownSteps : Int32) (f_course_rows : Nat → Int32) (f_told_ovenNumbers : Nat → Int32) (f_told_doughNumbers : Nat → Int32) (x1 : Int32) (x2 : Int32) (x3 : Int32) (x4 : Int32) (res : Int32) (hf : f_X4_odds  v_told_ovenCount v_told_doughCount v_course_knownSteps f_course_rows f_told_ovenNumbers f_told_doughNumbers x1 x2 x3 x4 = some res) : PureI l E 6 yX4_odds cX4_odds 9 .int [.ref p_this, .int x1, .int x2, .int x3, .int x4] (w_X4_odds E p_this p_script p_told p_draft p_course p_trial p_imageZero p_imageOne p_ledDoughs p_ledOvens p_rowSearch p_told_ovenNumbers p_told_doughNumbers p_course_rows v_keptImages v_ledCount v_traceSum v_told_ovenCount v_told_doughCount v_course_knownSteps f_course_rows f_told_ovenNumbers f_told_doughNumbers) res := by
  refine PureI.of (by decide) (Nat.le_of_ble_eq_true rfl) ?_
  intro p e s m args below meth c Q A X hK hA hret H locs ls hl hP hS
  obtain ⟨hx, hb, hml, hown, hts, hrt, hlk⟩ := id X
  have hl : lv_has ls 9 [(0, .ref p_this), (1, .int x1), (2, .int x2), (3, .int x3), (4, .int x4)] := hl
  unfold f_X4_odds at hf
  refine lv_aload_n hx hb dX4_odds_0 rfl (lv_at hl 0 rfl) ?_
  refine gf_RX4_19 X hK hP 0 rfl rfl dX4_odds_1 ?_
  refine lv_iload_n hx hb dX4_odds_4 rfl (lv_at hl 1 rfl) ?_
  obtain ⟨u_1, hu_1, hf⟩ := ob hf
  refine pV X hK hA hP hS hl.1 (m_X3_hasDough (l := l) E p_told p_told_ovenNumbers p_told_doughNumbers v_told_ovenCount v_told_doughCount x1 u_1 hu_1) kRX4_99 [1] rfl rfl rfl rfl ⟨⟨(Nat.le_of_ble_eq_true rfl), (Nat.le_of_ble_eq_true rfl)⟩, Nat.zero_le _, Nat.zero_le _⟩ rfl rfl (Nat.le_of_ble_eq_true rfl) dX4_odds_5 (fun H locs hP hS => ?_)
  refine lv_if_eq (tgt := 22) hx hb dX4_odds_8 (by decide) (fun c_2 => ?_) (fun c_2 => ?_)
  · replace hf := ot c_2 hf
    refine lv_iconst (v := (-1 : Int32)) hx hb dX4_odds_22 (by decide) ?_
    obtain rfl := Option.some.inj hf
    exact hret H locs _ ls rfl hP hS dX4_odds_23
  · replace hf := of c_2 hf
    refine lv_aload_n hx hb dX4_odds_11 rfl (lv_at hl 0 rfl) ?_
    refine gf_RX4_19 X hK hP 0 rfl rfl dX4_odds_12 ?_
    refine lv_iload_n hx hb dX4_odds_15 rfl (lv_at hl 2 rfl) ?_
    obtain ⟨u_3, hu_3, hf⟩ := ob hf
    refine pV X hK hA hP hS hl.1 (m_X3_hasOven (l := l) E p_told p_told_ovenNumbers p_told_doughNumbers v_told_ovenCount v_told_doughCount x2 u_3 hu_3) kRX4_81 [1] rfl rfl rfl rfl ⟨⟨(Nat.le_of_ble_eq_true rfl), (Nat.le_of_ble_eq_true rfl)⟩, Nat.zero_le _, Nat.zero_le _⟩ rfl rfl (Nat.le_of_ble_eq_true rfl) dX4_odds_16 (fun H locs hP hS => ?_)
    refine lv_if_ne (tgt := 24) hx hb dX4_odds_19 (by decide) (fun c_4 => ?_) (fun c_4 => ?_)
    · replace hf := of c_4 hf
      refine lv_iload_n hx hb dX4_odds_24 rfl (lv_at hl 3 rfl) ?_
      refine lv_if_lt (tgt := 45) hx hb dX4_odds_25 (by decide) (fun c_5 => ?_) (fun c_5 => ?_)
      · replace hf := ot c_5 hf
        refine lv_iconst (v := (-1 : Int32)) hx hb dX4_odds_45 (by decide) ?_
        obtain rfl := Option.some.inj hf
        exact hret H locs _ ls rfl hP hS dX4_odds_46
      · replace hf := of c_5 hf
        refine lv_iload_n hx hb dX4_odds_28 rfl (lv_at hl 3 rfl) ?_
        refine lv_bipush (v := (10 : Int32)) hx hb dX4_odds_29 (by decide) ?_
        refine lv_icmp_gt (tgt := 45) hx hb dX4_odds_31 (by decide) (fun c_6 => ?_) (fun c_6 => ?_)
        · replace hf := ot c_6 hf
          refine lv_iconst (v := (-1 : Int32)) hx hb dX4_odds_45 (by decide) ?_
          obtain rfl := Option.some.inj hf
          exact hret H locs _ ls rfl hP hS dX4_odds_46
        · replace hf := of c_6 hf
          refine lv_iload hx hb dX4_odds_34 (lv_at hl 4 rfl) ?_
          refine lv_if_eq (tgt := 47) hx hb dX4_odds_36 (by decide) (fun c_7 => ?_) (fun c_7 => ?_)
          · replace hf := ot c_7 hf
            exact b_X4_odds_47 E p_this p_script p_told p_draft p_course p_trial p_imageZero p_imageOne p_ledDoughs p_ledOvens p_rowSearch p_told_ovenNumbers p_told_doughNumbers p_course_rows v_keptImages v_ledCount v_traceSum v_told_ovenCount v_told_doughCount v_course_knownSteps f_course_rows f_told_ovenNumbers f_told_doughNumbers res X hK hA hret   x1 x2 x3 x4 hf H locs ls (lv_sub hl [0, 1, 2, 3, 4] rfl) hP hS
          · replace hf := of c_7 hf
            refine lv_iload hx hb dX4_odds_39 (lv_at hl 4 rfl) ?_
            refine lv_iconst (v := (1 : Int32)) hx hb dX4_odds_41 (by decide) ?_
            refine lv_icmp_eq (tgt := 47) hx hb dX4_odds_42 (by decide) (fun c_8 => ?_) (fun c_8 => ?_)
            · replace hf := ot c_8 hf
              exact b_X4_odds_47 E p_this p_script p_told p_draft p_course p_trial p_imageZero p_imageOne p_ledDoughs p_ledOvens p_rowSearch p_told_ovenNumbers p_told_doughNumbers p_course_rows v_keptImages v_ledCount v_traceSum v_told_ovenCount v_told_doughCount v_course_knownSteps f_course_rows f_told_ovenNumbers f_told_doughNumbers res X hK hA hret   x1 x2 x3 x4 hf H locs ls (lv_sub hl [0, 1, 2, 3, 4] rfl) hP hS
            · replace hf := of c_8 hf
              refine lv_iconst (v := (-1 : Int32)) hx hb dX4_odds_45 (by decide) ?_
              obtain rfl := Option.some.inj hf
              exact hret H locs _ ls rfl hP hS dX4_odds_46
    · replace hf := ot c_4 hf
      refine lv_iconst (v := (-1 : Int32)) hx hb dX4_odds_22 (by decide) ?_
      obtain rfl := Option.some.inj hf
      exact hret H locs _ ls rfl hP hS dX4_odds_23

abbrev w_X4_led (E : Ev) (p_this : Nat) (p_script : Nat) (p_told : Nat) (p_draft : Nat) (p_course : Nat) (p_trial : Nat) (p_imageZero : Nat) (p_imageOne : Nat) (p_ledDoughs : Nat) (p_ledOvens : Nat) (p_rowSearch : Nat) (p_told_ovenNumbers : Nat) (p_told_doughNumbers : Nat) (p_course_rows : Nat) (v_keptImages : Int32) (v_ledCount : Int32) (v_traceSum : Int64) (v_told_ovenCount : Int32) (v_told_doughCount : Int32) (v_course_knownSteps : Int32) (f_course_rows : Nat → Int32) (f_ledDoughs : Nat → Int32) (f_ledOvens : Nat → Int32) : va_W := [(p_this, .inr (4, [.ref p_script, .ref p_told, .ref p_draft, .ref p_course, .ref p_trial, .ref p_imageZero, .ref p_imageOne, .int v_keptImages, .ref p_ledDoughs, .ref p_ledOvens, .int v_ledCount, .ref p_rowSearch, .long v_traceSum])), (p_told, .inr (3, [.ref p_told_ovenNumbers, .ref p_told_doughNumbers, .int v_told_ovenCount, .int v_told_doughCount])), (p_course, .inr (0, [.ref p_course_rows, .int v_course_knownSteps])), (p_course_rows, .inl (E.2.1, 154, .inl f_course_rows)), (p_ledDoughs, .inl (E.2.1, 6, .inl f_ledDoughs)), (p_ledOvens, .inl (E.2.1, 6, .inl f_ledOvens))]
set_option maxHeartbeats 4000000 in
set_option maxRecDepth 100000 in
theorem m_X4_led {l : Launch} (E : Ev) (p_this : Nat) (p_script : Nat) (p_told : Nat) (p_draft : Nat) (p_course : Nat) (p_trial : Nat) (p_imageZero : Nat) (p_imageOne : Nat) (p_ledDoughs : Nat) (p_ledOvens : Nat) (p_rowSearch : Nat) (p_told_ovenNumbers : Nat) (p_told_doughNumbers : Nat) (p_course_rows : Nat) (v_keptImages : Int32) (v_ledCount : Int32) (v_traceSum : Int64) (v_told_ovenCount : Int32) (v_told_doughCount : Int32) (v_course_knownSteps : Int32) (f_course_rows : Nat → Int32) (f_ledDoughs : Nat → Int32) (f_ledOvens : Nat → Int32) (x1 : Int32) (x2 : Int32) (res : Int32 × Int32 × (Nat → Int32) × (Nat → Int32)) (hf : f_X4_led  v_told_ovenCount v_told_doughCount v_course_knownSteps f_course_rows v_ledCount f_ledDoughs f_ledOvens x1 x2 = some res) : MutI l E 4 yX4_led cX4_led 3 .int [.ref p_this, .int x1, .int x2] (w_X4_led E p_this p_script p_told p_draft p_course p_trial p_imageZero p_imageOne p_ledDoughs p_ledOvens p_rowSearch p_told_ovenNumbers p_told_doughNumbers p_course_rows v_keptImages v_ledCount v_traceSum v_told_ovenCount v_told_doughCount v_course_knownSteps f_course_rows f_ledDoughs f_ledOvens) (w_X4_led E p_this p_script p_told p_draft p_course p_trial p_imageZero p_imageOne p_ledDoughs p_ledOvens p_rowSearch p_told_ovenNumbers p_told_doughNumbers p_course_rows v_keptImages res.2.1 v_traceSum v_told_ovenCount v_told_doughCount v_course_knownSteps f_course_rows res.2.2.1 res.2.2.2) res.1 := by
  refine MutI.of (by decide) (Nat.le_of_ble_eq_true rfl) ?_
  intro p e s m args below meth c Q A X hK hA hret H locs ls hl hP hD hS
  obtain ⟨hx, hb, hml, hown, hts, hrt, hlk⟩ := id X
  have hl : lv_has ls 3 [(0, .ref p_this), (1, .int x1), (2, .int x2)] := hl
  unfold f_X4_led at hf
  refine lv_aload_n hx hb dX4_led_0 rfl (lv_at hl 0 rfl) ?_
  refine gf_RX4_19 X hK hP 0 rfl rfl dX4_led_1 ?_
  refine lv_iload_n hx hb dX4_led_4 rfl (lv_at hl 1 rfl) ?_
  obtain ⟨u_1, hu_1, hf⟩ := ob hf
  refine pV X hK hA hP hS hl.1 (m_X3_hasDough (l := l) E p_told p_told_ovenNumbers p_told_doughNumbers v_told_ovenCount v_told_doughCount x1 u_1 hu_1) kRX4_99 [1] rfl rfl rfl rfl ⟨⟨(Nat.le_of_ble_eq_true rfl), (Nat.le_of_ble_eq_true rfl)⟩, Nat.zero_le _, Nat.zero_le _⟩ rfl rfl (Nat.le_of_ble_eq_true rfl) dX4_led_5 (fun H locs hP hS => ?_)
  refine lv_if_eq (tgt := 22) hx hb dX4_led_8 (by decide) (fun c_2 => ?_) (fun c_2 => ?_)
  · replace hf := ot c_2 hf
    refine lv_iconst (v := (-1 : Int32)) hx hb dX4_led_22 (by decide) ?_
    obtain rfl := Option.some.inj hf
    exact hret H locs _ ls rfl hP hS dX4_led_23
  · replace hf := of c_2 hf
    refine lv_aload_n hx hb dX4_led_11 rfl (lv_at hl 0 rfl) ?_
    refine gf_RX4_19 X hK hP 0 rfl rfl dX4_led_12 ?_
    refine lv_iload_n hx hb dX4_led_15 rfl (lv_at hl 2 rfl) ?_
    obtain ⟨u_3, hu_3, hf⟩ := ob hf
    refine pV X hK hA hP hS hl.1 (m_X3_hasOven (l := l) E p_told p_told_ovenNumbers p_told_doughNumbers v_told_ovenCount v_told_doughCount x2 u_3 hu_3) kRX4_81 [1] rfl rfl rfl rfl ⟨⟨(Nat.le_of_ble_eq_true rfl), (Nat.le_of_ble_eq_true rfl)⟩, Nat.zero_le _, Nat.zero_le _⟩ rfl rfl (Nat.le_of_ble_eq_true rfl) dX4_led_16 (fun H locs hP hS => ?_)
    refine lv_if_ne (tgt := 24) hx hb dX4_led_19 (by decide) (fun c_4 => ?_) (fun c_4 => ?_)
    · replace hf := of c_4 hf
      refine lv_aload_n hx hb dX4_led_24 rfl (lv_at hl 0 rfl) ?_
      refine lv_iload_n hx hb dX4_led_25 rfl (lv_at hl 1 rfl) ?_
      obtain ⟨u_5, hu_5, hf⟩ := ob hf
      refine pV X hK hA hP hS hl.1 (m_X4_isOut (l := l) E p_this p_script p_told p_draft p_course p_trial p_imageZero p_imageOne p_ledDoughs p_ledOvens p_rowSearch p_course_rows v_keptImages v_ledCount v_traceSum v_course_knownSteps f_course_rows x1 u_5 hu_5) kRX4_112 [0, 2, 3] rfl rfl rfl rfl ⟨⟨(Nat.le_of_ble_eq_true rfl), (Nat.le_of_ble_eq_true rfl)⟩, Nat.zero_le _, Nat.zero_le _⟩ rfl rfl (Nat.le_of_ble_eq_true rfl) dX4_led_26 (fun H locs hP hS => ?_)
      refine lv_if_ne (tgt := 35) hx hb dX4_led_29 (by decide) (fun c_6 => ?_) (fun c_6 => ?_)
      · replace hf := of c_6 hf
        refine lv_aload_n hx hb dX4_led_35 rfl (lv_at hl 0 rfl) ?_
        refine gf_RX4_78 X hK hP 0 rfl rfl dX4_led_36 ?_
        refine lv_bipush (v := (6 : Int32)) hx hb dX4_led_39 (by decide) ?_
        refine lv_icmp_lt (tgt := 47) hx hb dX4_led_41 (by decide) (fun c_7 => ?_) (fun c_7 => ?_)
        · replace hf := ot c_7 hf
          refine lv_aload_n hx hb dX4_led_47 rfl (lv_at hl 0 rfl) ?_
          refine gf_RX4_42 X hK hP 0 rfl rfl dX4_led_48 ?_
          refine lv_aload_n hx hb dX4_led_51 rfl (lv_at hl 0 rfl) ?_
          refine gf_RX4_78 X hK hP 0 rfl rfl dX4_led_52 ?_
          refine lv_iload_n hx hb dX4_led_55 rfl (lv_at hl 1 rfl) ?_
          obtain ⟨g_8, hf⟩ := og hf
          refine iast X hK hP hD hS 4 rfl _ rfl g_8 dX4_led_56 (fun H locs hP hD hS => ?_)
          have hP : va_P E.1 classes (w_X4_led E p_this p_script p_told p_draft p_course p_trial p_imageZero p_imageOne p_ledDoughs p_ledOvens p_rowSearch p_told_ovenNumbers p_told_doughNumbers p_course_rows v_keptImages v_ledCount v_traceSum v_told_ovenCount v_told_doughCount v_course_knownSteps f_course_rows (upd f_ledDoughs v_ledCount.toNatClampNeg x1) f_ledOvens) H := hP
          have hD : va_D A (w_X4_led E p_this p_script p_told p_draft p_course p_trial p_imageZero p_imageOne p_ledDoughs p_ledOvens p_rowSearch p_told_ovenNumbers p_told_doughNumbers p_course_rows v_keptImages v_ledCount v_traceSum v_told_ovenCount v_told_doughCount v_course_knownSteps f_course_rows (upd f_ledDoughs v_ledCount.toNatClampNeg x1) f_ledOvens) := hD
          refine lv_aload_n hx hb dX4_led_57 rfl (lv_at hl 0 rfl) ?_
          refine gf_RX4_46 X hK hP 0 rfl rfl dX4_led_58 ?_
          refine lv_aload_n hx hb dX4_led_61 rfl (lv_at hl 0 rfl) ?_
          refine gf_RX4_78 X hK hP 0 rfl rfl dX4_led_62 ?_
          refine lv_iload_n hx hb dX4_led_65 rfl (lv_at hl 2 rfl) ?_
          obtain ⟨g_9, hf⟩ := og hf
          refine iast X hK hP hD hS 5 rfl _ rfl g_9 dX4_led_66 (fun H locs hP hD hS => ?_)
          have hP : va_P E.1 classes (w_X4_led E p_this p_script p_told p_draft p_course p_trial p_imageZero p_imageOne p_ledDoughs p_ledOvens p_rowSearch p_told_ovenNumbers p_told_doughNumbers p_course_rows v_keptImages v_ledCount v_traceSum v_told_ovenCount v_told_doughCount v_course_knownSteps f_course_rows (upd f_ledDoughs v_ledCount.toNatClampNeg x1) (upd f_ledOvens v_ledCount.toNatClampNeg x2)) H := hP
          have hD : va_D A (w_X4_led E p_this p_script p_told p_draft p_course p_trial p_imageZero p_imageOne p_ledDoughs p_ledOvens p_rowSearch p_told_ovenNumbers p_told_doughNumbers p_course_rows v_keptImages v_ledCount v_traceSum v_told_ovenCount v_told_doughCount v_course_knownSteps f_course_rows (upd f_ledDoughs v_ledCount.toNatClampNeg x1) (upd f_ledOvens v_ledCount.toNatClampNeg x2)) := hD
          refine lv_aload_n hx hb dX4_led_67 rfl (lv_at hl 0 rfl) ?_
          refine lv_dup hx hb dX4_led_68 rfl ?_
          refine gf_RX4_78 X hK hP 0 rfl rfl dX4_led_69 ?_
          refine lv_iconst (v := (1 : Int32)) hx hb dX4_led_72 (by decide) ?_
          refine lv_iadd hx hb dX4_led_73 ?_
          refine pf_RX4_78 X hK hP hD hS 0 rfl rfl dX4_led_74 (fun H locs hP hD hS => ?_)
          have hP : va_P E.1 classes (w_X4_led E p_this p_script p_told p_draft p_course p_trial p_imageZero p_imageOne p_ledDoughs p_ledOvens p_rowSearch p_told_ovenNumbers p_told_doughNumbers p_course_rows v_keptImages (v_ledCount + (1 : Int32)) v_traceSum v_told_ovenCount v_told_doughCount v_course_knownSteps f_course_rows (upd f_ledDoughs v_ledCount.toNatClampNeg x1) (upd f_ledOvens v_ledCount.toNatClampNeg x2)) H := hP
          have hD : va_D A (w_X4_led E p_this p_script p_told p_draft p_course p_trial p_imageZero p_imageOne p_ledDoughs p_ledOvens p_rowSearch p_told_ovenNumbers p_told_doughNumbers p_course_rows v_keptImages (v_ledCount + (1 : Int32)) v_traceSum v_told_ovenCount v_told_doughCount v_course_knownSteps f_course_rows (upd f_ledDoughs v_ledCount.toNatClampNeg x1) (upd f_ledOvens v_ledCount.toNatClampNeg x2)) := hD
          refine lv_aload_n hx hb dX4_led_77 rfl (lv_at hl 0 rfl) ?_
          refine gf_RX4_78 X hK hP 0 rfl rfl dX4_led_78 ?_
          obtain rfl := Option.some.inj hf
          exact hret H locs _ ls rfl hP hS dX4_led_81
        · replace hf := of c_7 hf
          refine lv_bipush (v := (-3 : Int32)) hx hb dX4_led_44 (by decide) ?_
          obtain rfl := Option.some.inj hf
          exact hret H locs _ ls rfl hP hS dX4_led_46
      · replace hf := ot c_6 hf
        refine lv_bipush (v := (-2 : Int32)) hx hb dX4_led_32 (by decide) ?_
        obtain rfl := Option.some.inj hf
        exact hret H locs _ ls rfl hP hS dX4_led_34
    · replace hf := ot c_4 hf
      refine lv_iconst (v := (-1 : Int32)) hx hb dX4_led_22 (by decide) ?_
      obtain rfl := Option.some.inj hf
      exact hret H locs _ ls rfl hP hS dX4_led_23

abbrev w_X4_forget (E : Ev) (p_this : Nat) (p_script : Nat) (p_told : Nat) (p_draft : Nat) (p_course : Nat) (p_trial : Nat) (p_imageZero : Nat) (p_imageOne : Nat) (p_ledDoughs : Nat) (p_ledOvens : Nat) (p_rowSearch : Nat) (v_keptImages : Int32) (v_ledCount : Int32) (v_traceSum : Int64) : va_W := [(p_this, .inr (4, [.ref p_script, .ref p_told, .ref p_draft, .ref p_course, .ref p_trial, .ref p_imageZero, .ref p_imageOne, .int v_keptImages, .ref p_ledDoughs, .ref p_ledOvens, .int v_ledCount, .ref p_rowSearch, .long v_traceSum]))]
set_option maxHeartbeats 4000000 in
set_option maxRecDepth 100000 in
theorem m_X4_forget {l : Launch} (E : Ev) (p_this : Nat) (p_script : Nat) (p_told : Nat) (p_draft : Nat) (p_course : Nat) (p_trial : Nat) (p_imageZero : Nat) (p_imageOne : Nat) (p_ledDoughs : Nat) (p_ledOvens : Nat) (p_rowSearch : Nat) (v_keptImages : Int32) (v_ledCount : Int32) (v_traceSum : Int64)  (res : Int32 × Int32) (hf : f_X4_forget  v_ledCount  = some res) : MutI l E 1 yX4_forget cX4_forget 2 .int [.ref p_this] (w_X4_forget E p_this p_script p_told p_draft p_course p_trial p_imageZero p_imageOne p_ledDoughs p_ledOvens p_rowSearch v_keptImages v_ledCount v_traceSum) (w_X4_forget E p_this p_script p_told p_draft p_course p_trial p_imageZero p_imageOne p_ledDoughs p_ledOvens p_rowSearch v_keptImages res.2 v_traceSum) res.1 := by
  refine MutI.of (by decide) (Nat.le_of_ble_eq_true rfl) ?_
  intro p e s m args below meth c Q A X hK hA hret H locs ls hl hP hD hS
  obtain ⟨hx, hb, hml, hown, hts, hrt, hlk⟩ := id X
  have hl : lv_has ls 2 [(0, .ref p_this)] := hl
  unfold f_X4_forget at hf
  refine lv_aload_n hx hb dX4_forget_0 rfl (lv_at hl 0 rfl) ?_
  refine gf_RX4_78 X hK hP 0 rfl rfl dX4_forget_1 ?_
  refine lv_istore_n (lv' := [(1, .int v_ledCount), (0, .ref p_this)]) hx hb dX4_forget_4 rfl hl (by decide) rfl (fun ls hl => ?_)
  refine lv_aload_n hx hb dX4_forget_5 rfl (lv_at hl 1 rfl) ?_
  refine lv_iconst (v := (0 : Int32)) hx hb dX4_forget_6 (by decide) ?_
  refine pf_RX4_78 X hK hP hD hS 0 rfl rfl dX4_forget_7 (fun H locs hP hD hS => ?_)
  have hP : va_P E.1 classes (w_X4_forget E p_this p_script p_told p_draft p_course p_trial p_imageZero p_imageOne p_ledDoughs p_ledOvens p_rowSearch v_keptImages (0 : Int32) v_traceSum) H := hP
  have hD : va_D A (w_X4_forget E p_this p_script p_told p_draft p_course p_trial p_imageZero p_imageOne p_ledDoughs p_ledOvens p_rowSearch v_keptImages (0 : Int32) v_traceSum) := hD
  refine lv_iload_n hx hb dX4_forget_10 rfl (lv_at hl 0 rfl) ?_
  obtain rfl := Option.some.inj hf
  exact hret H locs _ ls rfl hP hS dX4_forget_11

abbrev w_X4_allLedWith (E : Ev) (p_this : Nat) (p_script : Nat) (p_told : Nat) (p_draft : Nat) (p_course : Nat) (p_trial : Nat) (p_imageZero : Nat) (p_imageOne : Nat) (p_ledDoughs : Nat) (p_ledOvens : Nat) (p_rowSearch : Nat) (p_course_rows : Nat) (p_told_ovenNumbers : Nat) (p_told_doughNumbers : Nat) (v_keptImages : Int32) (v_ledCount : Int32) (v_traceSum : Int64) (v_course_knownSteps : Int32) (v_told_ovenCount : Int32) (v_told_doughCount : Int32) (f_ledDoughs : Nat → Int32) (f_course_rows : Nat → Int32) (f_told_ovenNumbers : Nat → Int32) (f_told_doughNumbers : Nat → Int32) (f_ledOvens : Nat → Int32) : va_W := [(p_this, .inr (4, [.ref p_script, .ref p_told, .ref p_draft, .ref p_course, .ref p_trial, .ref p_imageZero, .ref p_imageOne, .int v_keptImages, .ref p_ledDoughs, .ref p_ledOvens, .int v_ledCount, .ref p_rowSearch, .long v_traceSum])), (p_ledDoughs, .inl (E.2.1, 6, .inl f_ledDoughs)), (p_course, .inr (0, [.ref p_course_rows, .int v_course_knownSteps])), (p_course_rows, .inl (E.2.1, 154, .inl f_course_rows)), (p_told, .inr (3, [.ref p_told_ovenNumbers, .ref p_told_doughNumbers, .int v_told_ovenCount, .int v_told_doughCount])), (p_told_ovenNumbers, .inl (E.2.1, 10, .inl f_told_ovenNumbers)), (p_told_doughNumbers, .inl (E.2.1, 30, .inl f_told_doughNumbers)), (p_ledOvens, .inl (E.2.1, 6, .inl f_ledOvens))]
set_option maxHeartbeats 4000000 in
set_option maxRecDepth 100000 in
theorem b_X4_allLedWith_2 {p : Program} {l : Launch} {e : Env} {s : State} {m : MethodId} {args : Array Value} {below : List Frame} {meth : Method} {c : Code} {Q : State → Prop} {A : Nat → Prop} (E : Ev) (p_this : Nat) (p_script : Nat) (p_told : Nat) (p_draft : Nat) (p_course : Nat) (p_trial : Nat) (p_imageZero : Nat) (p_imageOne : Nat) (p_ledDoughs : Nat) (p_ledOvens : Nat) (p_rowSearch : Nat) (p_course_rows : Nat) (p_told_ovenNumbers : Nat) (p_told_doughNumbers : Nat) (v_keptImages : Int32) (v_ledCount : Int32) (v_traceSum : Int64) (v_course_knownSteps : Int32) (v_told_ovenCount : Int32) (v_told_doughCount : Int32) (f_ledDoughs : Nat → Int32) (f_course_rows : Nat → Int32) (f_told_ovenNumbers : Nat → Int32) (f_told_doughNumbers : Nat → Int32) (f_ledOvens : Nat → Int32) (res : Int32) (X : Cx p s m args meth c cX4_allLedWith 4 RX4 (some .boolean)) (hK : KK E A s s.heap) (hA : ∀ q, s.heap.size ≤ q → A q) (hret : RetI p l e (RM 6) s m args below meth c Q E A cX4_allLedWith .boolean (w_X4_allLedWith E p_this p_script p_told p_draft p_course p_trial p_imageZero p_imageOne p_ledDoughs p_ledOvens p_rowSearch p_course_rows p_told_ovenNumbers p_told_doughNumbers v_keptImages v_ledCount v_traceSum v_course_knownSteps v_told_ovenCount v_told_doughCount f_ledDoughs f_course_rows f_told_ovenNumbers f_told_doughNumbers f_ledOvens) res)  : ∀ (n : Nat) (x1 : Int32) (x2 : Int32), f_X4_allLedWith_2 v_ledCount v_course_knownSteps v_told_ovenCount v_told_doughCount f_ledDoughs f_course_rows f_told_ovenNumbers f_told_doughNumbers f_ledOvens   n x1 x2 = some res → ∀ (H : Heap) (locs : List Loc) (ls : Array Slot), lv_has ls 4 [(0, .ref p_this), (1, .int x1), (2, .int x2)] → va_P E.1 classes (w_X4_allLedWith E p_this p_script p_told p_draft p_course p_trial p_imageZero p_imageOne p_ledDoughs p_ledOvens p_rowSearch p_course_rows p_told_ovenNumbers p_told_doughNumbers v_keptImages v_ledCount v_traceSum v_course_knownSteps v_told_ovenCount v_told_doughCount f_ledDoughs f_course_rows f_told_ovenNumbers f_told_doughNumbers f_ledOvens) H → va_S A s.heap H locs → W p l e (RM 6) s m args below meth c H locs 0 0 Q (F0 m 2 ls []) := by
  obtain ⟨hx, hb, hml, hown, hts, hrt, hlk⟩ := id X
  intro n
  induction n with
  | zero => intro x1 x2 hf; exact absurd hf (by simp [f_X4_allLedWith_2])
  | succ n ih =>
    intro x1 x2 hf H locs ls hl hP hS
    unfold f_X4_allLedWith_2 at hf
    refine lv_iload_n hx hb dX4_allLedWith_2 rfl (lv_at hl 2 rfl) ?_
    refine lv_aload_n hx hb dX4_allLedWith_3 rfl (lv_at hl 0 rfl) ?_
    refine gf_RX4_78 X hK hP 0 rfl rfl dX4_allLedWith_4 ?_
    refine lv_icmp_ge (tgt := 48) hx hb dX4_allLedWith_7 (by decide) (fun c_1 => ?_) (fun c_1 => ?_)
    · replace hf := ot c_1 hf
      refine lv_iconst (v := (1 : Int32)) hx hb dX4_allLedWith_48 (by decide) ?_
      obtain rfl := Option.some.inj hf
      exact hret H locs _ ls nar1 hP hS dX4_allLedWith_49
    · replace hf := of c_1 hf
      refine lv_aload_n hx hb dX4_allLedWith_10 rfl (lv_at hl 0 rfl) ?_
      refine gf_RX4_42 X hK hP 0 rfl rfl dX4_allLedWith_11 ?_
      refine lv_iload_n hx hb dX4_allLedWith_14 rfl (lv_at hl 2 rfl) ?_
      obtain ⟨g_2, hf⟩ := og hf
      refine iald X hK hP 1 rfl _ rfl g_2 dX4_allLedWith_15 ?_
      refine lv_istore_n (lv' := [(3, .int (f_ledDoughs x2.toNatClampNeg)), (0, .ref p_this), (1, .int x1), (2, .int x2)]) hx hb dX4_allLedWith_16 rfl hl (by decide) rfl (fun ls hl => ?_)
      refine lv_aload_n hx hb dX4_allLedWith_17 rfl (lv_at hl 1 rfl) ?_
      refine lv_iload_n hx hb dX4_allLedWith_18 rfl (lv_at hl 0 rfl) ?_
      obtain ⟨u_3, hu_3, hf⟩ := ob hf
      refine pV X hK hA hP hS hl.1 (m_X4_isOut (l := l) E p_this p_script p_told p_draft p_course p_trial p_imageZero p_imageOne p_ledDoughs p_ledOvens p_rowSearch p_course_rows v_keptImages v_ledCount v_traceSum v_course_knownSteps f_course_rows (f_ledDoughs x2.toNatClampNeg) u_3 hu_3) kRX4_112 [0, 2, 3] rfl rfl rfl rfl ⟨⟨(Nat.le_of_ble_eq_true rfl), (Nat.le_of_ble_eq_true rfl)⟩, Nat.zero_le _, Nat.zero_le _⟩ rfl rfl (Nat.le_of_ble_eq_true rfl) dX4_allLedWith_19 (fun H locs hP hS => ?_)
      refine lv_if_eq (tgt := 40) hx hb dX4_allLedWith_22 (by decide) (fun c_4 => ?_) (fun c_4 => ?_)
      · replace hf := ot c_4 hf
        refine lv_iconst (v := (0 : Int32)) hx hb dX4_allLedWith_40 (by decide) ?_
        obtain rfl := Option.some.inj hf
        exact hret H locs _ ls nar0 hP hS dX4_allLedWith_41
      · replace hf := of c_4 hf
        refine lv_aload_n hx hb dX4_allLedWith_25 rfl (lv_at hl 1 rfl) ?_
        refine lv_iload_n hx hb dX4_allLedWith_26 rfl (lv_at hl 0 rfl) ?_
        refine lv_iload_n hx hb dX4_allLedWith_27 rfl (lv_at hl 2 rfl) ?_
        obtain ⟨u_5, hu_5, hf⟩ := ob hf
        refine pV X hK hA hP hS hl.1 (m_X4_noseOf (l := l) E p_this p_script p_told p_draft p_course p_trial p_imageZero p_imageOne p_ledDoughs p_ledOvens p_rowSearch p_told_ovenNumbers p_told_doughNumbers p_course_rows v_keptImages v_ledCount v_traceSum v_told_ovenCount v_told_doughCount v_course_knownSteps f_course_rows f_told_ovenNumbers f_told_doughNumbers (f_ledDoughs x2.toNatClampNeg) x1 u_5 hu_5) kRX4_115 [0, 4, 2, 3, 5, 6] rfl rfl rfl rfl ⟨⟨(Nat.le_of_ble_eq_true rfl), (Nat.le_of_ble_eq_true rfl)⟩, Nat.zero_le _, Nat.zero_le _⟩ rfl rfl (Nat.le_of_ble_eq_true rfl) dX4_allLedWith_28 (fun H locs hP hS => ?_)
        refine lv_aload_n hx hb dX4_allLedWith_31 rfl (lv_at hl 1 rfl) ?_
        refine gf_RX4_46 X hK hP 0 rfl rfl dX4_allLedWith_32 ?_
        refine lv_iload_n hx hb dX4_allLedWith_35 rfl (lv_at hl 3 rfl) ?_
        obtain ⟨g_6, hf⟩ := og hf
        refine iald X hK hP 7 rfl _ rfl g_6 dX4_allLedWith_36 ?_
        refine lv_icmp_eq (tgt := 42) hx hb dX4_allLedWith_37 (by decide) (fun c_7 => ?_) (fun c_7 => ?_)
        · replace hf := ot c_7 hf
          refine lv_iinc (v := (x2 + (1 : Int32))) (lv' := [(2, .int (x2 + (1 : Int32))), (3, .int (f_ledDoughs x2.toNatClampNeg)), (0, .ref p_this), (1, .int x1)]) hx hb dX4_allLedWith_42 hl (k := 3) rfl rfl (by decide) rfl (fun ls hl => ?_)
          refine lv_goto (tgt := 2) hx hb dX4_allLedWith_45 (by decide) ?_
          exact ih x1 (x2 + (1 : Int32)) hf H locs ls (lv_sub hl [2, 3, 0] rfl) hP hS
        · replace hf := of c_7 hf
          refine lv_iconst (v := (0 : Int32)) hx hb dX4_allLedWith_40 (by decide) ?_
          obtain rfl := Option.some.inj hf
          exact hret H locs _ ls nar0 hP hS dX4_allLedWith_41

set_option maxHeartbeats 4000000 in
set_option maxRecDepth 100000 in
theorem m_X4_allLedWith {l : Launch} (E : Ev) (p_this : Nat) (p_script : Nat) (p_told : Nat) (p_draft : Nat) (p_course : Nat) (p_trial : Nat) (p_imageZero : Nat) (p_imageOne : Nat) (p_ledDoughs : Nat) (p_ledOvens : Nat) (p_rowSearch : Nat) (p_course_rows : Nat) (p_told_ovenNumbers : Nat) (p_told_doughNumbers : Nat) (v_keptImages : Int32) (v_ledCount : Int32) (v_traceSum : Int64) (v_course_knownSteps : Int32) (v_told_ovenCount : Int32) (v_told_doughCount : Int32) (f_ledDoughs : Nat → Int32) (f_course_rows : Nat → Int32) (f_told_ovenNumbers : Nat → Int32) (f_told_doughNumbers : Nat → Int32) (f_ledOvens : Nat → Int32) (x1 : Int32) (res : Int32) (hf : f_X4_allLedWith  v_ledCount v_course_knownSteps v_told_ovenCount v_told_doughCount f_ledDoughs f_course_rows f_told_ovenNumbers f_told_doughNumbers f_ledOvens x1 = some res) : PureI l E 6 yX4_allLedWith cX4_allLedWith 4 .boolean [.ref p_this, .int x1] (w_X4_allLedWith E p_this p_script p_told p_draft p_course p_trial p_imageZero p_imageOne p_ledDoughs p_ledOvens p_rowSearch p_course_rows p_told_ovenNumbers p_told_doughNumbers v_keptImages v_ledCount v_traceSum v_course_knownSteps v_told_ovenCount v_told_doughCount f_ledDoughs f_course_rows f_told_ovenNumbers f_told_doughNumbers f_ledOvens) res := by
  refine PureI.of (by decide) (Nat.le_of_ble_eq_true rfl) ?_
  intro p e s m args below meth c Q A X hK hA hret H locs ls hl hP hS
  obtain ⟨hx, hb, hml, hown, hts, hrt, hlk⟩ := id X
  have hl : lv_has ls 4 [(0, .ref p_this), (1, .int x1)] := hl
  unfold f_X4_allLedWith at hf
  refine lv_iconst (v := (0 : Int32)) hx hb dX4_allLedWith_0 (by decide) ?_
  refine lv_istore_n (lv' := [(2, .int (0 : Int32)), (0, .ref p_this), (1, .int x1)]) hx hb dX4_allLedWith_1 rfl hl (by decide) rfl (fun ls hl => ?_)
  exact b_X4_allLedWith_2 E p_this p_script p_told p_draft p_course p_trial p_imageZero p_imageOne p_ledDoughs p_ledOvens p_rowSearch p_course_rows p_told_ovenNumbers p_told_doughNumbers v_keptImages v_ledCount v_traceSum v_course_knownSteps v_told_ovenCount v_told_doughCount f_ledDoughs f_course_rows f_told_ovenNumbers f_told_doughNumbers f_ledOvens res X hK hA hret   FU x1 (0 : Int32) hf H locs ls (lv_sub hl [1, 2, 0] rfl) hP hS

