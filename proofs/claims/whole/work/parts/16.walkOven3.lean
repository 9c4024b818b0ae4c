abbrev w_X4_vanilla (E : Ev) (p_this : Nat) (p_script : Nat) (p_told : Nat) (p_draft : Nat) (p_course : Nat) (p_trial : Nat) (p_imageZero : Nat) (p_imageOne : Nat) (p_ledDoughs : Nat) (p_ledOvens : Nat) (p_rowSearch : Nat) (p_course_rows : Nat) (p_told_ovenNumbers : Nat) (p_told_doughNumbers : Nat) (v_keptImages : Int32) (v_ledCount : Int32) (v_traceSum : Int64) (v_course_knownSteps : Int32) (v_told_ovenCount : Int32) (v_told_doughCount : Int32) (f_ledDoughs : Nat → Int32) (f_course_rows : Nat → Int32) (f_told_ovenNumbers : Nat → Int32) (f_told_doughNumbers : Nat → Int32) (f_ledOvens : Nat → Int32) : va_W := [(p_this, .inr (4, [.ref p_script, .ref p_told, .ref p_draft, .ref p_course, .ref p_trial, .ref p_imageZero, .ref p_imageOne, .int v_keptImages, .ref p_ledDoughs, .ref p_ledOvens, .int v_ledCount, .ref p_rowSearch, .long v_traceSum])), (p_ledDoughs, .inl (E.2.1, 6, .inl f_ledDoughs)), (p_course, .inr (0, [.ref p_course_rows, .int v_course_knownSteps])), (p_course_rows, .inl (E.2.1, 154, .inl f_course_rows)), (p_told, .inr (3, [.ref p_told_ovenNumbers, .ref p_told_doughNumbers, .int v_told_ovenCount, .int v_told_doughCount])), (p_told_ovenNumbers, .inl (E.2.1, 10, .inl f_told_ovenNumbers)), (p_told_doughNumbers, .inl (E.2.1, 30, .inl f_told_doughNumbers)), (p_ledOvens, .inl (E.2.1, 6, .inl f_ledOvens))]
set_option maxHeartbeats 4000000 in
set_option maxRecDepth 100000 in
theorem b_X4_vanilla_17 {p : Program} {l : Launch} {e : Env} {s : State} {m : MethodId} {args : Array Value} {below : List Frame} {meth : Method} {c : Code} {Q : State → Prop} {A : Nat → Prop} (E : Ev) (p_this : Nat) (p_script : Nat) (p_told : Nat) (p_draft : Nat) (p_course : Nat) (p_trial : Nat) (p_imageZero : Nat) (p_imageOne : Nat) (p_ledDoughs : Nat) (p_ledOvens : Nat) (p_rowSearch : Nat) (p_course_rows : Nat) (p_told_ovenNumbers : Nat) (p_told_doughNumbers : Nat) (v_keptImages : Int32) (v_ledCount : Int32) (v_traceSum : Int64) (v_course_knownSteps : Int32) (v_told_ovenCount : Int32) (v_told_doughCount : Int32) (f_ledDoughs : Nat → Int32) (f_course_rows : Nat → Int32) (f_told_ovenNumbers : Nat → Int32) (f_told_doughNumbers : Nat → Int32) (f_ledOvens : Nat → Int32) (res : Int32) (X : Cx p s m args meth c cX4_vanilla 3 RX4 (some .int)) (hK : KK E A s s.heap) (hA : ∀ q, s.heap.size ≤ q → A q) (hret : RetI p l e (RM 7) s m args below meth c Q E A cX4_vanilla .int (w_X4_vanilla E p_this p_script p_told p_draft p_course p_trial p_imageZero p_imageOne p_ledDoughs p_ledOvens p_rowSearch p_course_rows p_told_ovenNumbers p_told_doughNumbers v_keptImages v_ledCount v_traceSum v_course_knownSteps v_told_ovenCount v_told_doughCount f_ledDoughs f_course_rows f_told_ovenNumbers f_told_doughNumbers f_ledOvens) res)  : ∀ (n : Nat) (x1 : Int32) (x2 : Int32), f_X4_vanilla_17 v_ledCount v_course_knownSteps v_told_ovenCount v_told_doughCount f_ledDoughs f_course_rows f_told_ovenNumbers f_told_doughNumbers f_ledOvens   n x1 x2 = some res → ∀ (H : Heap) (locs : List Loc) (ls : Array Slot), lv_has ls 3 [(0, .ref p_this), (1, .int x1), (2, .int x2)] → va_P E.1 classes (w_X4_vanilla E p_this p_script p_told p_draft p_course p_trial p_imageZero p_imageOne p_ledDoughs p_ledOvens p_rowSearch p_course_rows p_told_ovenNumbers p_told_doughNumbers v_keptImages v_ledCount v_traceSum v_course_knownSteps v_told_ovenCount v_told_doughCount f_ledDoughs f_course_rows f_told_ovenNumbers f_told_doughNumbers f_ledOvens) H → va_S A s.heap H locs → W p l e (RM 7) s m args below meth c H locs 0 0 Q (F0 m 17 ls []) := by
  obtain ⟨hx, hb, hml, hown, hts, hrt, hlk⟩ := id X
  intro n
  induction n with
  | zero => intro x1 x2 hf; exact absurd hf (by simp [f_X4_vanilla_17])
  | succ n ih =>
    intro x1 x2 hf H locs ls hl hP hS
    unfold f_X4_vanilla_17 at hf
    refine lv_iload_n hx hb dX4_vanilla_17 rfl (lv_at hl 2 rfl) ?_
    refine lv_aload_n hx hb dX4_vanilla_18 rfl (lv_at hl 0 rfl) ?_
    refine gf_RX4_19 X hK hP 0 rfl rfl dX4_vanilla_19 ?_
    obtain ⟨u_1, hu_1, hf⟩ := ob hf
    refine pV X hK hA hP hS hl.1 (m_X3_ovens (l := l) E p_told p_told_ovenNumbers p_told_doughNumbers v_told_ovenCount v_told_doughCount  u_1 hu_1) kRX4_193 [4] rfl rfl rfl rfl ⟨⟨(Nat.le_of_ble_eq_true rfl), (Nat.le_of_ble_eq_true rfl)⟩, Nat.zero_le _, Nat.zero_le _⟩ rfl rfl (Nat.le_of_ble_eq_true rfl) dX4_vanilla_22 (fun H locs hP hS => ?_)
    refine lv_icmp_ge (tgt := 48) hx hb dX4_vanilla_25 (by decide) (fun c_2 => ?_) (fun c_2 => ?_)
    · replace hf := ot c_2 hf
      refine lv_iload_n hx hb dX4_vanilla_48 rfl (lv_at hl 1 rfl) ?_
      obtain rfl := Option.some.inj hf
      exact hret H locs _ ls rfl hP hS dX4_vanilla_49
    · replace hf := of c_2 hf
      refine lv_aload_n hx hb dX4_vanilla_28 rfl (lv_at hl 0 rfl) ?_
      refine lv_iload_n hx hb dX4_vanilla_29 rfl (lv_at hl 2 rfl) ?_
      obtain ⟨u_3, hu_3, hf⟩ := ob hf
      refine pV X hK hA hP hS hl.1 (m_X4_allLedWith (l := l) E p_this p_script p_told p_draft p_course p_trial p_imageZero p_imageOne p_ledDoughs p_ledOvens p_rowSearch p_course_rows p_told_ovenNumbers p_told_doughNumbers v_keptImages v_ledCount v_traceSum v_course_knownSteps v_told_ovenCount v_told_doughCount f_ledDoughs f_course_rows f_told_ovenNumbers f_told_doughNumbers f_ledOvens x2 u_3 hu_3) kRX4_190 [0, 1, 2, 3, 4, 5, 6, 7] rfl rfl rfl rfl ⟨⟨(Nat.le_of_ble_eq_true rfl), (Nat.le_of_ble_eq_true rfl)⟩, Nat.zero_le _, Nat.zero_le _⟩ rfl rfl (Nat.le_of_ble_eq_true rfl) dX4_vanilla_30 (fun H locs hP hS => ?_)
      refine lv_if_eq (tgt := 42) hx hb dX4_vanilla_33 (by decide) (fun c_4 => ?_) (fun c_4 => ?_)
      · replace hf := ot c_4 hf
        refine lv_iinc (v := (x2 + (1 : Int32))) (lv' := [(2, .int (x2 + (1 : Int32))), (0, .ref p_this), (1, .int x1)]) hx hb dX4_vanilla_42 hl (k := 2) rfl rfl (by decide) rfl (fun ls hl => ?_)
        refine lv_goto (tgt := 17) hx hb dX4_vanilla_45 (by decide) ?_
        exact ih x1 (x2 + (1 : Int32)) hf H locs ls (lv_sub hl [1, 2, 0] rfl) hP hS
      · replace hf := of c_4 hf
        refine lv_iload_n hx hb dX4_vanilla_36 rfl (lv_at hl 1 rfl) ?_
        refine lv_iconst (v := (1 : Int32)) hx hb dX4_vanilla_37 (by decide) ?_
        refine lv_iload_n hx hb dX4_vanilla_38 rfl (lv_at hl 2 rfl) ?_
        refine lv_ishl hx hb dX4_vanilla_39 ?_
        refine lv_ior hx hb dX4_vanilla_40 ?_
        refine lv_istore_n (lv' := [(1, .int (x1 ||| ((1 : Int32) <<< (x2 &&& 31)))), (0, .ref p_this), (2, .int x2)]) hx hb dX4_vanilla_41 rfl hl (by decide) rfl (fun ls hl => ?_)
        refine lv_iinc (v := (x2 + (1 : Int32))) (lv' := [(2, .int (x2 + (1 : Int32))), (1, .int (x1 ||| ((1 : Int32) <<< (x2 &&& 31)))), (0, .ref p_this)]) hx hb dX4_vanilla_42 hl (k := 2) rfl rfl (by decide) rfl (fun ls hl => ?_)
        refine lv_goto (tgt := 17) hx hb dX4_vanilla_45 (by decide) ?_
        exact ih (x1 ||| ((1 : Int32) <<< (x2 &&& 31))) (x2 + (1 : Int32)) hf H locs ls (lv_sub hl [2, 1, 0] rfl) hP hS

set_option maxHeartbeats 4000000 in
set_option maxRecDepth 100000 in
theorem b_X4_vanilla_14 {p : Program} {l : Launch} {e : Env} {s : State} {m : MethodId} {args : Array Value} {below : List Frame} {meth : Method} {c : Code} {Q : State → Prop} {A : Nat → Prop} (E : Ev) (p_this : Nat) (p_script : Nat) (p_told : Nat) (p_draft : Nat) (p_course : Nat) (p_trial : Nat) (p_imageZero : Nat) (p_imageOne : Nat) (p_ledDoughs : Nat) (p_ledOvens : Nat) (p_rowSearch : Nat) (p_course_rows : Nat) (p_told_ovenNumbers : Nat) (p_told_doughNumbers : Nat) (v_keptImages : Int32) (v_ledCount : Int32) (v_traceSum : Int64) (v_course_knownSteps : Int32) (v_told_ovenCount : Int32) (v_told_doughCount : Int32) (f_ledDoughs : Nat → Int32) (f_course_rows : Nat → Int32) (f_told_ovenNumbers : Nat → Int32) (f_told_doughNumbers : Nat → Int32) (f_ledOvens : Nat → Int32) (res : Int32) (X : Cx p s m args meth c cX4_vanilla 3 RX4 (some .int)) (hK : KK E A s s.heap) (hA : ∀ q, s.heap.size ≤ q → A q) (hret : RetI p l e (RM 7) s m args below meth c Q E A cX4_vanilla .int (w_X4_vanilla E p_this p_script p_told p_draft p_course p_trial p_imageZero p_imageOne p_ledDoughs p_ledOvens p_rowSearch p_course_rows p_told_ovenNumbers p_told_doughNumbers v_keptImages v_ledCount v_traceSum v_course_knownSteps v_told_ovenCount v_told_doughCount f_ledDoughs f_course_rows f_told_ovenNumbers f_told_doughNumbers f_ledOvens) res)  (k0 : Int32) (hf : f_X4_vanilla_14 v_ledCount v_course_knownSteps v_told_ovenCount v_told_doughCount f_ledDoughs f_course_rows f_told_ovenNumbers f_told_doughNumbers f_ledOvens   k0 = some res) : ∀ (H : Heap) (locs : List Loc) (ls : Array Slot), lv_has ls 3 [(0, .ref p_this)] → va_P E.1 classes (w_X4_vanilla E p_this p_script p_told p_draft p_course p_trial p_imageZero p_imageOne p_ledDoughs p_ledOvens p_rowSearch p_course_rows p_told_ovenNumbers p_told_doughNumbers v_keptImages v_ledCount v_traceSum v_course_knownSteps v_told_ovenCount v_told_doughCount f_ledDoughs f_course_rows f_told_ovenNumbers f_told_doughNumbers f_ledOvens) H → va_S A s.heap H locs → W p l e (RM 7) s m args below meth c H locs 0 0 Q (F0 m 14 ls [.int k0]) := by
  obtain ⟨hx, hb, hml, hown, hts, hrt, hlk⟩ := id X
  intro H locs ls hl hP hS
  unfold f_X4_vanilla_14 at hf
  refine lv_istore_n (lv' := [(1, .int k0), (0, .ref p_this)]) hx hb dX4_vanilla_14 rfl hl (by decide) rfl (fun ls hl => ?_)
  refine lv_iconst (v := (0 : Int32)) hx hb dX4_vanilla_15 (by decide) ?_
  refine lv_istore_n (lv' := [(2, .int (0 : Int32)), (1, .int k0), (0, .ref p_this)]) hx hb dX4_vanilla_16 rfl hl (by decide) rfl (fun ls hl => ?_)
  exact b_X4_vanilla_17 E p_this p_script p_told p_draft p_course p_trial p_imageZero p_imageOne p_ledDoughs p_ledOvens p_rowSearch p_course_rows p_told_ovenNumbers p_told_doughNumbers v_keptImages v_ledCount v_traceSum v_course_knownSteps v_told_ovenCount v_told_doughCount f_ledDoughs f_course_rows f_told_ovenNumbers f_told_doughNumbers f_ledOvens res X hK hA hret   FU k0 (0 : Int32) hf H locs ls (lv_sub hl [2, 1, 0] rfl) hP hS

set_option maxHeartbeats 4000000 in
set_option maxRecDepth 100000 in
theorem m_X4_vanilla {l : Launch} (E : Ev) (p_this : Nat) (p_script : Nat) (p_told : Nat) (p_draft : Nat) (p_course : Nat) (p_trial : Nat) (p_imageZero : Nat) (p_imageOne : Nat) (p_ledDoughs : Nat) (p_ledOvens : Nat) (p_rowSearch : Nat) (p_course_rows : Nat) (p_told_ovenNumbers : Nat) (p_told_doughNumbers : Nat) (v_keptImages : Int32) (v_ledCount : Int32) (v_traceSum : Int64) (v_course_knownSteps : Int32) (v_told_ovenCount : Int32) (v_told_doughCount : Int32) (f_ledDoughs : Nat → Int32) (f_course_rows : Nat → Int32) (f_told_ovenNumbers : Nat → Int32) (f_told_doughNumbers : Nat → Int32) (f_ledOvens : Nat → Int32)  (res : Int32) (hf : f_X4_vanilla  v_ledCount v_course_knownSteps v_told_ovenCount v_told_doughCount f_ledDoughs f_course_rows f_told_ovenNumbers f_told_doughNumbers f_ledOvens  = some res) : PureI l E 7 yX4_vanilla cX4_vanilla 3 .int [.ref p_this] (w_X4_vanilla E p_this p_script p_told p_draft p_course p_trial p_imageZero p_imageOne p_ledDoughs p_ledOvens p_rowSearch p_course_rows p_told_ovenNumbers p_told_doughNumbers v_keptImages v_ledCount v_traceSum v_course_knownSteps v_told_ovenCount v_told_doughCount f_ledDoughs f_course_rows f_told_ovenNumbers f_told_doughNumbers f_ledOvens) res := by
  refine PureI.of (by decide) (Nat.le_of_ble_eq_true rfl) ?_
  intro p e s m args below meth c Q A X hK hA hret H locs ls hl hP hS
  obtain ⟨hx, hb, hml, hown, hts, hrt, hlk⟩ := id X
  have hl : lv_has ls 3 [(0, .ref p_this)] := hl
  unfold f_X4_vanilla at hf
  refine lv_aload_n hx hb dX4_vanilla_0 rfl (lv_at hl 0 rfl) ?_
  refine lv_iconst (v := (-1 : Int32)) hx hb dX4_vanilla_1 (by decide) ?_
  obtain ⟨u_1, hu_1, hf⟩ := ob hf
  refine pV X hK hA hP hS hl.1 (m_X4_allLedWith (l := l) E p_this p_script p_told p_draft p_course p_trial p_imageZero p_imageOne p_ledDoughs p_ledOvens p_rowSearch p_course_rows p_told_ovenNumbers p_told_doughNumbers v_keptImages v_ledCount v_traceSum v_course_knownSteps v_told_ovenCount v_told_doughCount f_ledDoughs f_course_rows f_told_ovenNumbers f_told_doughNumbers f_ledOvens (-1 : Int32) u_1 hu_1) kRX4_190 [0, 1, 2, 3, 4, 5, 6, 7] rfl rfl rfl rfl ⟨⟨(Nat.le_of_ble_eq_true rfl), (Nat.le_of_ble_eq_true rfl)⟩, Nat.zero_le _, Nat.zero_le _⟩ rfl rfl (Nat.le_of_ble_eq_true rfl) dX4_vanilla_2 (fun H locs hP hS => ?_)
  refine lv_if_eq (tgt := 13) hx hb dX4_vanilla_5 (by decide) (fun c_2 => ?_) (fun c_2 => ?_)
  · replace hf := ot c_2 hf
    refine lv_iconst (v := (0 : Int32)) hx hb dX4_vanilla_13 (by decide) ?_
    exact b_X4_vanilla_14 E p_this p_script p_told p_draft p_course p_trial p_imageZero p_imageOne p_ledDoughs p_ledOvens p_rowSearch p_course_rows p_told_ovenNumbers p_told_doughNumbers v_keptImages v_ledCount v_traceSum v_course_knownSteps v_told_ovenCount v_told_doughCount f_ledDoughs f_course_rows f_told_ovenNumbers f_told_doughNumbers f_ledOvens res X hK hA hret   (0 : Int32) hf H locs ls (lv_sub hl [0] rfl) hP hS
  · replace hf := of c_2 hf
    refine lv_bipush (v := (32 : Int32)) hx hb dX4_vanilla_8 (by decide) ?_
    refine lv_goto (tgt := 14) hx hb dX4_vanilla_10 (by decide) ?_
    exact b_X4_vanilla_14 E p_this p_script p_told p_draft p_course p_trial p_imageZero p_imageOne p_ledDoughs p_ledOvens p_rowSearch p_course_rows p_told_ovenNumbers p_told_doughNumbers v_keptImages v_ledCount v_traceSum v_course_knownSteps v_told_ovenCount v_told_doughCount f_ledDoughs f_course_rows f_told_ovenNumbers f_told_doughNumbers f_ledOvens res X hK hA hret   (32 : Int32) hf H locs ls (lv_sub hl [0] rfl) hP hS

abbrev w_X4_asDough (E : Ev) (p_this : Nat) (p_script : Nat) (p_told : Nat) (p_draft : Nat) (p_course : Nat) (p_trial : Nat) (p_imageZero : Nat) (p_imageOne : Nat) (p_ledDoughs : Nat) (p_ledOvens : Nat) (p_rowSearch : Nat) (p_told_ovenNumbers : Nat) (p_told_doughNumbers : Nat) (v_keptImages : Int32) (v_ledCount : Int32) (v_traceSum : Int64) (v_told_ovenCount : Int32) (v_told_doughCount : Int32) (f_told_doughNumbers : Nat → Int32) : va_W := [(p_this, .inr (4, [.ref p_script, .ref p_told, .ref p_draft, .ref p_course, .ref p_trial, .ref p_imageZero, .ref p_imageOne, .int v_keptImages, .ref p_ledDoughs, .ref p_ledOvens, .int v_ledCount, .ref p_rowSearch, .long v_traceSum])), (p_told, .inr (3, [.ref p_told_ovenNumbers, .ref p_told_doughNumbers, .int v_told_ovenCount, .int v_told_doughCount])), (p_told_doughNumbers, .inl (E.2.1, 30, .inl f_told_doughNumbers))]
set_option maxHeartbeats 4000000 in
set_option maxRecDepth 100000 in
theorem m_X4_asDough {l : Launch} (E : Ev) (p_this : Nat) (p_script : Nat) (p_told : Nat) (p_draft : Nat) (p_course : Nat) (p_trial : Nat) (p_imageZero : Nat) (p_imageOne : Nat) (p_ledDoughs : Nat) (p_ledOvens : Nat) (p_rowSearch : Nat) (p_told_ovenNumbers : Nat) (p_told_doughNumbers : Nat) (v_keptImages : Int32) (v_ledCount : Int32) (v_traceSum : Int64) (v_told_ovenCount : Int32) (v_told_doughCount : Int32) (f_told_doughNumbers : Nat → Int32) (x1 : Int32) (res : Int32 × Int64) (hf : f_X4_asDough  v_told_doughCount f_told_doughNumbers v_traceSum x1 = some res) : MutI l E 3 yX4_asDough cX4_asDough 2 .int [.ref p_this, .int x1] (w_X4_asDough E p_this p_script p_told p_draft p_course p_trial p_imageZero p_imageOne p_ledDoughs p_ledOvens p_rowSearch p_told_ovenNumbers p_told_doughNumbers v_keptImages v_ledCount v_traceSum v_told_ovenCount v_told_doughCount f_told_doughNumbers) (w_X4_asDough E p_this p_script p_told p_draft p_course p_trial p_imageZero p_imageOne p_ledDoughs p_ledOvens p_rowSearch p_told_ovenNumbers p_told_doughNumbers v_keptImages v_ledCount res.2 v_told_ovenCount v_told_doughCount f_told_doughNumbers) res.1 := by
  refine MutI.of (by decide) (Nat.le_of_ble_eq_true rfl) ?_
  intro p e s m args below meth c Q A X hK hA hret H locs ls hl hP hD hS
  obtain ⟨hx, hb, hml, hown, hts, hrt, hlk⟩ := id X
  have hl : lv_has ls 2 [(0, .ref p_this), (1, .int x1)] := hl
  unfold f_X4_asDough at hf
  refine lv_aload_n hx hb dX4_asDough_0 rfl (lv_at hl 0 rfl) ?_
  refine lv_dup hx hb dX4_asDough_1 rfl ?_
  refine gf_RX4_221 X hK hP 0 rfl rfl dX4_asDough_2 ?_
  refine lv_lconst (v := (1 : Int64)) hx hb dX4_asDough_5 (by decide) ?_
  refine lv_ladd hx hb dX4_asDough_6 ?_
  refine pf_RX4_221 X hK hP hD hS 0 rfl rfl dX4_asDough_7 (fun H locs hP hD hS => ?_)
  have hP : va_P E.1 classes (w_X4_asDough E p_this p_script p_told p_draft p_course p_trial p_imageZero p_imageOne p_ledDoughs p_ledOvens p_rowSearch p_told_ovenNumbers p_told_doughNumbers v_keptImages v_ledCount (v_traceSum + (1 : Int64)) v_told_ovenCount v_told_doughCount f_told_doughNumbers) H := hP
  have hD : va_D A (w_X4_asDough E p_this p_script p_told p_draft p_course p_trial p_imageZero p_imageOne p_ledDoughs p_ledOvens p_rowSearch p_told_ovenNumbers p_told_doughNumbers v_keptImages v_ledCount (v_traceSum + (1 : Int64)) v_told_ovenCount v_told_doughCount f_told_doughNumbers) := hD
  refine lv_aload_n hx hb dX4_asDough_10 rfl (lv_at hl 0 rfl) ?_
  refine gf_RX4_19 X hK hP 0 rfl rfl dX4_asDough_11 ?_
  refine lv_iload_n hx hb dX4_asDough_14 rfl (lv_at hl 1 rfl) ?_
  refine lv_iconst (v := (0 : Int32)) hx hb dX4_asDough_15 (by decide) ?_
  obtain ⟨u_1, hu_1, hf⟩ := ob hf
  refine pV X hK hA hP hS hl.1 (m_X3_ofDough (l := l) E p_told p_told_ovenNumbers p_told_doughNumbers v_told_ovenCount v_told_doughCount f_told_doughNumbers x1 (0 : Int32) u_1 hu_1) kRX4_102 [1, 2] rfl rfl rfl rfl ⟨⟨(Nat.le_of_ble_eq_true rfl), (Nat.le_of_ble_eq_true rfl)⟩, Nat.zero_le _, Nat.zero_le _⟩ rfl rfl (Nat.le_of_ble_eq_true rfl) dX4_asDough_16 (fun H locs hP hS => ?_)
  obtain rfl := Option.some.inj hf
  exact hret H locs _ ls rfl hP hS dX4_asDough_19

abbrev w_X4_asCake (E : Ev) (p_this : Nat) (p_script : Nat) (p_told : Nat) (p_draft : Nat) (p_course : Nat) (p_trial : Nat) (p_imageZero : Nat) (p_imageOne : Nat) (p_ledDoughs : Nat) (p_ledOvens : Nat) (p_rowSearch : Nat) (p_told_ovenNumbers : Nat) (p_told_doughNumbers : Nat) (p_course_rows : Nat) (v_keptImages : Int32) (v_ledCount : Int32) (v_traceSum : Int64) (v_told_ovenCount : Int32) (v_told_doughCount : Int32) (v_course_knownSteps : Int32) (f_told_doughNumbers : Nat → Int32) (f_course_rows : Nat → Int32) : va_W := [(p_this, .inr (4, [.ref p_script, .ref p_told, .ref p_draft, .ref p_course, .ref p_trial, .ref p_imageZero, .ref p_imageOne, .int v_keptImages, .ref p_ledDoughs, .ref p_ledOvens, .int v_ledCount, .ref p_rowSearch, .long v_traceSum])), (p_told, .inr (3, [.ref p_told_ovenNumbers, .ref p_told_doughNumbers, .int v_told_ovenCount, .int v_told_doughCount])), (p_told_doughNumbers, .inl (E.2.1, 30, .inl f_told_doughNumbers)), (p_course, .inr (0, [.ref p_course_rows, .int v_course_knownSteps])), (p_course_rows, .inl (E.2.1, 154, .inl f_course_rows))]
set_option maxHeartbeats 4000000 in
set_option maxRecDepth 100000 in
theorem m_X4_asCake {l : Launch} (E : Ev) (p_this : Nat) (p_script : Nat) (p_told : Nat) (p_draft : Nat) (p_course : Nat) (p_trial : Nat) (p_imageZero : Nat) (p_imageOne : Nat) (p_ledDoughs : Nat) (p_ledOvens : Nat) (p_rowSearch : Nat) (p_told_ovenNumbers : Nat) (p_told_doughNumbers : Nat) (p_course_rows : Nat) (v_keptImages : Int32) (v_ledCount : Int32) (v_traceSum : Int64) (v_told_ovenCount : Int32) (v_told_doughCount : Int32) (v_course_knownSteps : Int32) (f_told_doughNumbers : Nat → Int32) (f_course_rows : Nat → Int32) (x1 : Int32) (res : Int32 × Int64) (hf : f_X4_asCake  v_told_doughCount v_course_knownSteps f_told_doughNumbers f_course_rows v_traceSum x1 = some res) : MutI l E 4 yX4_asCake cX4_asCake 2 .int [.ref p_this, .int x1] (w_X4_asCake E p_this p_script p_told p_draft p_course p_trial p_imageZero p_imageOne p_ledDoughs p_ledOvens p_rowSearch p_told_ovenNumbers p_told_doughNumbers p_course_rows v_keptImages v_ledCount v_traceSum v_told_ovenCount v_told_doughCount v_course_knownSteps f_told_doughNumbers f_course_rows) (w_X4_asCake E p_this p_script p_told p_draft p_course p_trial p_imageZero p_imageOne p_ledDoughs p_ledOvens p_rowSearch p_told_ovenNumbers p_told_doughNumbers p_course_rows v_keptImages v_ledCount res.2 v_told_ovenCount v_told_doughCount v_course_knownSteps f_told_doughNumbers f_course_rows) res.1 := by
  refine MutI.of (by decide) (Nat.le_of_ble_eq_true rfl) ?_
  intro p e s m args below meth c Q A X hK hA hret H locs ls hl hP hD hS
  obtain ⟨hx, hb, hml, hown, hts, hrt, hlk⟩ := id X
  have hl : lv_has ls 2 [(0, .ref p_this), (1, .int x1)] := hl
  unfold f_X4_asCake at hf
  refine lv_aload_n hx hb dX4_asCake_0 rfl (lv_at hl 0 rfl) ?_
  refine lv_dup hx hb dX4_asCake_1 rfl ?_
  refine gf_RX4_221 X hK hP 0 rfl rfl dX4_asCake_2 ?_
  refine lv_ldc2 (v := LC_10) hx hb hown (hts _ q547) dX4_asCake_5 ?_
  refine lv_ladd hx hb dX4_asCake_8 ?_
  refine pf_RX4_221 X hK hP hD hS 0 rfl rfl dX4_asCake_9 (fun H locs hP hD hS => ?_)
  have hP : va_P E.1 classes (w_X4_asCake E p_this p_script p_told p_draft p_course p_trial p_imageZero p_imageOne p_ledDoughs p_ledOvens p_rowSearch p_told_ovenNumbers p_told_doughNumbers p_course_rows v_keptImages v_ledCount (v_traceSum + LC_10) v_told_ovenCount v_told_doughCount v_course_knownSteps f_told_doughNumbers f_course_rows) H := hP
  have hD : va_D A (w_X4_asCake E p_this p_script p_told p_draft p_course p_trial p_imageZero p_imageOne p_ledDoughs p_ledOvens p_rowSearch p_told_ovenNumbers p_told_doughNumbers p_course_rows v_keptImages v_ledCount (v_traceSum + LC_10) v_told_ovenCount v_told_doughCount v_course_knownSteps f_told_doughNumbers f_course_rows) := hD
  refine lv_aload_n hx hb dX4_asCake_12 rfl (lv_at hl 0 rfl) ?_
  refine lv_iload_n hx hb dX4_asCake_13 rfl (lv_at hl 1 rfl) ?_
  obtain ⟨u_1, hu_1, hf⟩ := ob hf
  refine mV X hK hA hP hD hS hl.1 (m_X4_asDough (l := l) E p_this p_script p_told p_draft p_course p_trial p_imageZero p_imageOne p_ledDoughs p_ledOvens p_rowSearch p_told_ovenNumbers p_told_doughNumbers v_keptImages v_ledCount (v_traceSum + LC_10) v_told_ovenCount v_told_doughCount f_told_doughNumbers x1 u_1 hu_1) kRX4_196 [0, 1, 2] rfl rfl (by simp only [w_X4_asDough, List.map]) rfl rfl rfl ⟨⟨(Nat.le_of_ble_eq_true rfl), (Nat.le_of_ble_eq_true rfl)⟩, Nat.zero_le _, Nat.zero_le _⟩ rfl rfl (Nat.le_of_ble_eq_true rfl) dX4_asCake_14 (fun H locs hP hD hS => ?_)
  have hP : va_P E.1 classes (w_X4_asCake E p_this p_script p_told p_draft p_course p_trial p_imageZero p_imageOne p_ledDoughs p_ledOvens p_rowSearch p_told_ovenNumbers p_told_doughNumbers p_course_rows v_keptImages v_ledCount u_1.2 v_told_ovenCount v_told_doughCount v_course_knownSteps f_told_doughNumbers f_course_rows) H := hP
  have hD : va_D A (w_X4_asCake E p_this p_script p_told p_draft p_course p_trial p_imageZero p_imageOne p_ledDoughs p_ledOvens p_rowSearch p_told_ovenNumbers p_told_doughNumbers p_course_rows v_keptImages v_ledCount u_1.2 v_told_ovenCount v_told_doughCount v_course_knownSteps f_told_doughNumbers f_course_rows) := hD
  refine lv_aload_n hx hb dX4_asCake_17 rfl (lv_at hl 0 rfl) ?_
  refine gf_RX4_29 X hK hP 0 rfl rfl dX4_asCake_18 ?_
  refine lv_iload_n hx hb dX4_asCake_21 rfl (lv_at hl 1 rfl) ?_
  obtain ⟨u_2, hu_2, hf⟩ := ob hf
  refine pV X hK hA hP hS hl.1 (m_X0_baked (l := l) E p_course p_course_rows v_course_knownSteps f_course_rows x1 u_2 hu_2) kRX4_109 [3, 4] rfl rfl rfl rfl ⟨⟨(Nat.le_of_ble_eq_true rfl), (Nat.le_of_ble_eq_true rfl)⟩, Nat.zero_le _, Nat.zero_le _⟩ rfl rfl (Nat.le_of_ble_eq_true rfl) dX4_asCake_22 (fun H locs hP hS => ?_)
  refine lv_iadd hx hb dX4_asCake_25 ?_
  obtain rfl := Option.some.inj hf
  exact hret H locs _ ls rfl hP hS dX4_asCake_26

abbrev w_X4_asBride (E : Ev) (p_this : Nat) (p_script : Nat) (p_told : Nat) (p_draft : Nat) (p_course : Nat) (p_trial : Nat) (p_imageZero : Nat) (p_imageOne : Nat) (p_ledDoughs : Nat) (p_ledOvens : Nat) (p_rowSearch : Nat) (p_told_ovenNumbers : Nat) (p_told_doughNumbers : Nat) (p_course_rows : Nat) (v_keptImages : Int32) (v_ledCount : Int32) (v_traceSum : Int64) (v_told_ovenCount : Int32) (v_told_doughCount : Int32) (v_course_knownSteps : Int32) (f_told_doughNumbers : Nat → Int32) (f_course_rows : Nat → Int32) : va_W := [(p_this, .inr (4, [.ref p_script, .ref p_told, .ref p_draft, .ref p_course, .ref p_trial, .ref p_imageZero, .ref p_imageOne, .int v_keptImages, .ref p_ledDoughs, .ref p_ledOvens, .int v_ledCount, .ref p_rowSearch, .long v_traceSum])), (p_told, .inr (3, [.ref p_told_ovenNumbers, .ref p_told_doughNumbers, .int v_told_ovenCount, .int v_told_doughCount])), (p_told_doughNumbers, .inl (E.2.1, 30, .inl f_told_doughNumbers)), (p_course, .inr (0, [.ref p_course_rows, .int v_course_knownSteps])), (p_course_rows, .inl (E.2.1, 154, .inl f_course_rows))]
set_option maxHeartbeats 4000000 in
set_option maxRecDepth 100000 in
theorem m_X4_asBride {l : Launch} (E : Ev) (p_this : Nat) (p_script : Nat) (p_told : Nat) (p_draft : Nat) (p_course : Nat) (p_trial : Nat) (p_imageZero : Nat) (p_imageOne : Nat) (p_ledDoughs : Nat) (p_ledOvens : Nat) (p_rowSearch : Nat) (p_told_ovenNumbers : Nat) (p_told_doughNumbers : Nat) (p_course_rows : Nat) (v_keptImages : Int32) (v_ledCount : Int32) (v_traceSum : Int64) (v_told_ovenCount : Int32) (v_told_doughCount : Int32) (v_course_knownSteps : Int32) (f_told_doughNumbers : Nat → Int32) (f_course_rows : Nat → Int32) (x1 : Int32) (res : Int32 × Int64) (hf : f_X4_asBride  v_told_doughCount v_course_knownSteps f_told_doughNumbers f_course_rows v_traceSum x1 = some res) : MutI l E 5 yX4_asBride cX4_asBride 2 .int [.ref p_this, .int x1] (w_X4_asBride E p_this p_script p_told p_draft p_course p_trial p_imageZero p_imageOne p_ledDoughs p_ledOvens p_rowSearch p_told_ovenNumbers p_told_doughNumbers p_course_rows v_keptImages v_ledCount v_traceSum v_told_ovenCount v_told_doughCount v_course_knownSteps f_told_doughNumbers f_course_rows) (w_X4_asBride E p_this p_script p_told p_draft p_course p_trial p_imageZero p_imageOne p_ledDoughs p_ledOvens p_rowSearch p_told_ovenNumbers p_told_doughNumbers p_course_rows v_keptImages v_ledCount res.2 v_told_ovenCount v_told_doughCount v_course_knownSteps f_told_doughNumbers f_course_rows) res.1 := by
  refine MutI.of (by decide) (Nat.le_of_ble_eq_true rfl) ?_
  intro p e s m args below meth c Q A X hK hA hret H locs ls hl hP hD hS
  obtain ⟨hx, hb, hml, hown, hts, hrt, hlk⟩ := id X
  have hl : lv_has ls 2 [(0, .ref p_this), (1, .int x1)] := hl
  unfold f_X4_asBride at hf
  refine lv_aload_n hx hb dX4_asBride_0 rfl (lv_at hl 0 rfl) ?_
  refine lv_dup hx hb dX4_asBride_1 rfl ?_
  refine gf_RX4_221 X hK hP 0 rfl rfl dX4_asBride_2 ?_
  refine lv_ldc2 (v := LC_1000) hx hb hown (hts _ q557) dX4_asBride_5 ?_
  refine lv_ladd hx hb dX4_asBride_8 ?_
  refine pf_RX4_221 X hK hP hD hS 0 rfl rfl dX4_asBride_9 (fun H locs hP hD hS => ?_)
  have hP : va_P E.1 classes (w_X4_asBride E p_this p_script p_told p_draft p_course p_trial p_imageZero p_imageOne p_ledDoughs p_ledOvens p_rowSearch p_told_ovenNumbers p_told_doughNumbers p_course_rows v_keptImages v_ledCount (v_traceSum + LC_1000) v_told_ovenCount v_told_doughCount v_course_knownSteps f_told_doughNumbers f_course_rows) H := hP
  have hD : va_D A (w_X4_asBride E p_this p_script p_told p_draft p_course p_trial p_imageZero p_imageOne p_ledDoughs p_ledOvens p_rowSearch p_told_ovenNumbers p_told_doughNumbers p_course_rows v_keptImages v_ledCount (v_traceSum + LC_1000) v_told_ovenCount v_told_doughCount v_course_knownSteps f_told_doughNumbers f_course_rows) := hD
  refine lv_aload_n hx hb dX4_asBride_12 rfl (lv_at hl 0 rfl) ?_
  refine lv_iload_n hx hb dX4_asBride_13 rfl (lv_at hl 1 rfl) ?_
  obtain ⟨u_1, hu_1, hf⟩ := ob hf
  refine mV X hK hA hP hD hS hl.1 (m_X4_asCake (l := l) E p_this p_script p_told p_draft p_course p_trial p_imageZero p_imageOne p_ledDoughs p_ledOvens p_rowSearch p_told_ovenNumbers p_told_doughNumbers p_course_rows v_keptImages v_ledCount (v_traceSum + LC_1000) v_told_ovenCount v_told_doughCount v_course_knownSteps f_told_doughNumbers f_course_rows x1 u_1 hu_1) kRX4_199 [0, 1, 2, 3, 4] rfl rfl (by simp only [w_X4_asCake, List.map]) rfl rfl rfl ⟨⟨(Nat.le_of_ble_eq_true rfl), (Nat.le_of_ble_eq_true rfl)⟩, Nat.zero_le _, Nat.zero_le _⟩ rfl rfl (Nat.le_of_ble_eq_true rfl) dX4_asBride_14 (fun H locs hP hD hS => ?_)
  have hP : va_P E.1 classes (w_X4_asBride E p_this p_script p_told p_draft p_course p_trial p_imageZero p_imageOne p_ledDoughs p_ledOvens p_rowSearch p_told_ovenNumbers p_told_doughNumbers p_course_rows v_keptImages v_ledCount u_1.2 v_told_ovenCount v_told_doughCount v_course_knownSteps f_told_doughNumbers f_course_rows) H := hP
  have hD : va_D A (w_X4_asBride E p_this p_script p_told p_draft p_course p_trial p_imageZero p_imageOne p_ledDoughs p_ledOvens p_rowSearch p_told_ovenNumbers p_told_doughNumbers p_course_rows v_keptImages v_ledCount u_1.2 v_told_ovenCount v_told_doughCount v_course_knownSteps f_told_doughNumbers f_course_rows) := hD
  refine lv_iconst (v := (2 : Int32)) hx hb dX4_asBride_17 (by decide) ?_
  refine lv_imul hx hb dX4_asBride_18 ?_
  obtain rfl := Option.some.inj hf
  exact hret H locs _ ls rfl hP hS dX4_asBride_19

abbrev w_X4_asHerring (E : Ev) (p_this : Nat) (p_script : Nat) (p_told : Nat) (p_draft : Nat) (p_course : Nat) (p_trial : Nat) (p_imageZero : Nat) (p_imageOne : Nat) (p_ledDoughs : Nat) (p_ledOvens : Nat) (p_rowSearch : Nat) (p_told_ovenNumbers : Nat) (p_told_doughNumbers : Nat) (v_keptImages : Int32) (v_ledCount : Int32) (v_traceSum : Int64) (v_told_ovenCount : Int32) (v_told_doughCount : Int32) (f_told_doughNumbers : Nat → Int32) : va_W := [(p_this, .inr (4, [.ref p_script, .ref p_told, .ref p_draft, .ref p_course, .ref p_trial, .ref p_imageZero, .ref p_imageOne, .int v_keptImages, .ref p_ledDoughs, .ref p_ledOvens, .int v_ledCount, .ref p_rowSearch, .long v_traceSum])), (p_told, .inr (3, [.ref p_told_ovenNumbers, .ref p_told_doughNumbers, .int v_told_ovenCount, .int v_told_doughCount])), (p_told_doughNumbers, .inl (E.2.1, 30, .inl f_told_doughNumbers))]
set_option maxHeartbeats 4000000 in
set_option maxRecDepth 100000 in
theorem m_X4_asHerring {l : Launch} (E : Ev) (p_this : Nat) (p_script : Nat) (p_told : Nat) (p_draft : Nat) (p_course : Nat) (p_trial : Nat) (p_imageZero : Nat) (p_imageOne : Nat) (p_ledDoughs : Nat) (p_ledOvens : Nat) (p_rowSearch : Nat) (p_told_ovenNumbers : Nat) (p_told_doughNumbers : Nat) (v_keptImages : Int32) (v_ledCount : Int32) (v_traceSum : Int64) (v_told_ovenCount : Int32) (v_told_doughCount : Int32) (f_told_doughNumbers : Nat → Int32) (x1 : Int32) (res : Int32 × Int64) (hf : f_X4_asHerring  v_told_doughCount f_told_doughNumbers v_traceSum x1 = some res) : MutI l E 4 yX4_asHerring cX4_asHerring 2 .int [.ref p_this, .int x1] (w_X4_asHerring E p_this p_script p_told p_draft p_course p_trial p_imageZero p_imageOne p_ledDoughs p_ledOvens p_rowSearch p_told_ovenNumbers p_told_doughNumbers v_keptImages v_ledCount v_traceSum v_told_ovenCount v_told_doughCount f_told_doughNumbers) (w_X4_asHerring E p_this p_script p_told p_draft p_course p_trial p_imageZero p_imageOne p_ledDoughs p_ledOvens p_rowSearch p_told_ovenNumbers p_told_doughNumbers v_keptImages v_ledCount res.2 v_told_ovenCount v_told_doughCount f_told_doughNumbers) res.1 := by
  refine MutI.of (by decide) (Nat.le_of_ble_eq_true rfl) ?_
  intro p e s m args below meth c Q A X hK hA hret H locs ls hl hP hD hS
  obtain ⟨hx, hb, hml, hown, hts, hrt, hlk⟩ := id X
  have hl : lv_has ls 2 [(0, .ref p_this), (1, .int x1)] := hl
  unfold f_X4_asHerring at hf
  refine lv_aload_n hx hb dX4_asHerring_0 rfl (lv_at hl 0 rfl) ?_
  refine lv_dup hx hb dX4_asHerring_1 rfl ?_
  refine gf_RX4_221 X hK hP 0 rfl rfl dX4_asHerring_2 ?_
  refine lv_ldc2 (v := LC_100) hx hb hown (hts _ q552) dX4_asHerring_5 ?_
  refine lv_ladd hx hb dX4_asHerring_8 ?_
  refine pf_RX4_221 X hK hP hD hS 0 rfl rfl dX4_asHerring_9 (fun H locs hP hD hS => ?_)
  have hP : va_P E.1 classes (w_X4_asHerring E p_this p_script p_told p_draft p_course p_trial p_imageZero p_imageOne p_ledDoughs p_ledOvens p_rowSearch p_told_ovenNumbers p_told_doughNumbers v_keptImages v_ledCount (v_traceSum + LC_100) v_told_ovenCount v_told_doughCount f_told_doughNumbers) H := hP
  have hD : va_D A (w_X4_asHerring E p_this p_script p_told p_draft p_course p_trial p_imageZero p_imageOne p_ledDoughs p_ledOvens p_rowSearch p_told_ovenNumbers p_told_doughNumbers v_keptImages v_ledCount (v_traceSum + LC_100) v_told_ovenCount v_told_doughCount f_told_doughNumbers) := hD
  refine lv_aload_n hx hb dX4_asHerring_12 rfl (lv_at hl 0 rfl) ?_
  refine lv_iload_n hx hb dX4_asHerring_13 rfl (lv_at hl 1 rfl) ?_
  obtain ⟨u_1, hu_1, hf⟩ := ob hf
  refine mV X hK hA hP hD hS hl.1 (m_X4_asDough (l := l) E p_this p_script p_told p_draft p_course p_trial p_imageZero p_imageOne p_ledDoughs p_ledOvens p_rowSearch p_told_ovenNumbers p_told_doughNumbers v_keptImages v_ledCount (v_traceSum + LC_100) v_told_ovenCount v_told_doughCount f_told_doughNumbers x1 u_1 hu_1) kRX4_196 [0, 1, 2] rfl rfl (by simp only [w_X4_asDough, List.map]) rfl rfl rfl ⟨⟨(Nat.le_of_ble_eq_true rfl), (Nat.le_of_ble_eq_true rfl)⟩, Nat.zero_le _, Nat.zero_le _⟩ rfl rfl (Nat.le_of_ble_eq_true rfl) dX4_asHerring_14 (fun H locs hP hD hS => ?_)
  have hP : va_P E.1 classes (w_X4_asHerring E p_this p_script p_told p_draft p_course p_trial p_imageZero p_imageOne p_ledDoughs p_ledOvens p_rowSearch p_told_ovenNumbers p_told_doughNumbers v_keptImages v_ledCount u_1.2 v_told_ovenCount v_told_doughCount f_told_doughNumbers) H := hP
  have hD : va_D A (w_X4_asHerring E p_this p_script p_told p_draft p_course p_trial p_imageZero p_imageOne p_ledDoughs p_ledOvens p_rowSearch p_told_ovenNumbers p_told_doughNumbers v_keptImages v_ledCount u_1.2 v_told_ovenCount v_told_doughCount f_told_doughNumbers) := hD
  refine lv_aload_n hx hb dX4_asHerring_17 rfl (lv_at hl 0 rfl) ?_
  refine gf_RX4_19 X hK hP 0 rfl rfl dX4_asHerring_18 ?_
  refine lv_iload_n hx hb dX4_asHerring_21 rfl (lv_at hl 1 rfl) ?_
  refine lv_iconst (v := (1 : Int32)) hx hb dX4_asHerring_22 (by decide) ?_
  obtain ⟨u_2, hu_2, hf⟩ := ob hf
  refine pV X hK hA hP hS hl.1 (m_X3_ofDough (l := l) E p_told p_told_ovenNumbers p_told_doughNumbers v_told_ovenCount v_told_doughCount f_told_doughNumbers x1 (1 : Int32) u_2 hu_2) kRX4_102 [1, 2] rfl rfl rfl rfl ⟨⟨(Nat.le_of_ble_eq_true rfl), (Nat.le_of_ble_eq_true rfl)⟩, Nat.zero_le _, Nat.zero_le _⟩ rfl rfl (Nat.le_of_ble_eq_true rfl) dX4_asHerring_23 (fun H locs hP hS => ?_)
  refine lv_isub hx hb dX4_asHerring_26 ?_
  obtain rfl := Option.some.inj hf
  exact hret H locs _ ls rfl hP hS dX4_asHerring_27

abbrev w_X4_asSniff (E : Ev) (p_this : Nat) (p_script : Nat) (p_told : Nat) (p_draft : Nat) (p_course : Nat) (p_trial : Nat) (p_imageZero : Nat) (p_imageOne : Nat) (p_ledDoughs : Nat) (p_ledOvens : Nat) (p_rowSearch : Nat) (p_told_ovenNumbers : Nat) (p_told_doughNumbers : Nat) (p_course_rows : Nat) (v_keptImages : Int32) (v_ledCount : Int32) (v_traceSum : Int64) (v_told_ovenCount : Int32) (v_told_doughCount : Int32) (v_course_knownSteps : Int32) (f_told_doughNumbers : Nat → Int32) (f_course_rows : Nat → Int32) : va_W := [(p_this, .inr (4, [.ref p_script, .ref p_told, .ref p_draft, .ref p_course, .ref p_trial, .ref p_imageZero, .ref p_imageOne, .int v_keptImages, .ref p_ledDoughs, .ref p_ledOvens, .int v_ledCount, .ref p_rowSearch, .long v_traceSum])), (p_told, .inr (3, [.ref p_told_ovenNumbers, .ref p_told_doughNumbers, .int v_told_ovenCount, .int v_told_doughCount])), (p_told_doughNumbers, .inl (E.2.1, 30, .inl f_told_doughNumbers)), (p_course, .inr (0, [.ref p_course_rows, .int v_course_knownSteps])), (p_course_rows, .inl (E.2.1, 154, .inl f_course_rows))]
set_option maxHeartbeats 4000000 in
set_option maxRecDepth 100000 in
theorem m_X4_asSniff {l : Launch} (E : Ev) (p_this : Nat) (p_script : Nat) (p_told : Nat) (p_draft : Nat) (p_course : Nat) (p_trial : Nat) (p_imageZero : Nat) (p_imageOne : Nat) (p_ledDoughs : Nat) (p_ledOvens : Nat) (p_rowSearch : Nat) (p_told_ovenNumbers : Nat) (p_told_doughNumbers : Nat) (p_course_rows : Nat) (v_keptImages : Int32) (v_ledCount : Int32) (v_traceSum : Int64) (v_told_ovenCount : Int32) (v_told_doughCount : Int32) (v_course_knownSteps : Int32) (f_told_doughNumbers : Nat → Int32) (f_course_rows : Nat → Int32) (x1 : Int32) (res : Int32 × Int64) (hf : f_X4_asSniff  v_told_doughCount v_course_knownSteps f_told_doughNumbers f_course_rows v_traceSum x1 = some res) : MutI l E 4 yX4_asSniff cX4_asSniff 2 .int [.ref p_this, .int x1] (w_X4_asSniff E p_this p_script p_told p_draft p_course p_trial p_imageZero p_imageOne p_ledDoughs p_ledOvens p_rowSearch p_told_ovenNumbers p_told_doughNumbers p_course_rows v_keptImages v_ledCount v_traceSum v_told_ovenCount v_told_doughCount v_course_knownSteps f_told_doughNumbers f_course_rows) (w_X4_asSniff E p_this p_script p_told p_draft p_course p_trial p_imageZero p_imageOne p_ledDoughs p_ledOvens p_rowSearch p_told_ovenNumbers p_told_doughNumbers p_course_rows v_keptImages v_ledCount res.2 v_told_ovenCount v_told_doughCount v_course_knownSteps f_told_doughNumbers f_course_rows) res.1 := by
  refine MutI.of (by decide) (Nat.le_of_ble_eq_true rfl) ?_
  intro p e s m args below meth c Q A X hK hA hret H locs ls hl hP hD hS
  obtain ⟨hx, hb, hml, hown, hts, hrt, hlk⟩ := id X
  have hl : lv_has ls 2 [(0, .ref p_this), (1, .int x1)] := hl
  unfold f_X4_asSniff at hf
  refine lv_aload_n hx hb dX4_asSniff_0 rfl (lv_at hl 0 rfl) ?_
  refine lv_dup hx hb dX4_asSniff_1 rfl ?_
  refine gf_RX4_221 X hK hP 0 rfl rfl dX4_asSniff_2 ?_
  refine lv_ldc2 (v := LC_100000) hx hb hown (hts _ q567) dX4_asSniff_5 ?_
  refine lv_ladd hx hb dX4_asSniff_8 ?_
  refine pf_RX4_221 X hK hP hD hS 0 rfl rfl dX4_asSniff_9 (fun H locs hP hD hS => ?_)
  have hP : va_P E.1 classes (w_X4_asSniff E p_this p_script p_told p_draft p_course p_trial p_imageZero p_imageOne p_ledDoughs p_ledOvens p_rowSearch p_told_ovenNumbers p_told_doughNumbers p_course_rows v_keptImages v_ledCount (v_traceSum + LC_100000) v_told_ovenCount v_told_doughCount v_course_knownSteps f_told_doughNumbers f_course_rows) H := hP
  have hD : va_D A (w_X4_asSniff E p_this p_script p_told p_draft p_course p_trial p_imageZero p_imageOne p_ledDoughs p_ledOvens p_rowSearch p_told_ovenNumbers p_told_doughNumbers p_course_rows v_keptImages v_ledCount (v_traceSum + LC_100000) v_told_ovenCount v_told_doughCount v_course_knownSteps f_told_doughNumbers f_course_rows) := hD
  refine lv_aload_n hx hb dX4_asSniff_12 rfl (lv_at hl 0 rfl) ?_
  refine lv_iload_n hx hb dX4_asSniff_13 rfl (lv_at hl 1 rfl) ?_
  obtain ⟨u_1, hu_1, hf⟩ := ob hf
  refine mV X hK hA hP hD hS hl.1 (m_X4_asDough (l := l) E p_this p_script p_told p_draft p_course p_trial p_imageZero p_imageOne p_ledDoughs p_ledOvens p_rowSearch p_told_ovenNumbers p_told_doughNumbers v_keptImages v_ledCount (v_traceSum + LC_100000) v_told_ovenCount v_told_doughCount f_told_doughNumbers x1 u_1 hu_1) kRX4_196 [0, 1, 2] rfl rfl (by simp only [w_X4_asDough, List.map]) rfl rfl rfl ⟨⟨(Nat.le_of_ble_eq_true rfl), (Nat.le_of_ble_eq_true rfl)⟩, Nat.zero_le _, Nat.zero_le _⟩ rfl rfl (Nat.le_of_ble_eq_true rfl) dX4_asSniff_14 (fun H locs hP hD hS => ?_)
  have hP : va_P E.1 classes (w_X4_asSniff E p_this p_script p_told p_draft p_course p_trial p_imageZero p_imageOne p_ledDoughs p_ledOvens p_rowSearch p_told_ovenNumbers p_told_doughNumbers p_course_rows v_keptImages v_ledCount u_1.2 v_told_ovenCount v_told_doughCount v_course_knownSteps f_told_doughNumbers f_course_rows) H := hP
  have hD : va_D A (w_X4_asSniff E p_this p_script p_told p_draft p_course p_trial p_imageZero p_imageOne p_ledDoughs p_ledOvens p_rowSearch p_told_ovenNumbers p_told_doughNumbers p_course_rows v_keptImages v_ledCount u_1.2 v_told_ovenCount v_told_doughCount v_course_knownSteps f_told_doughNumbers f_course_rows) := hD
  refine lv_aload_n hx hb dX4_asSniff_17 rfl (lv_at hl 0 rfl) ?_
  refine gf_RX4_29 X hK hP 0 rfl rfl dX4_asSniff_18 ?_
  obtain ⟨u_2, hu_2, hf⟩ := ob hf
  refine pV X hK hA hP hS hl.1 (m_X0_minute (l := l) E p_course p_course_rows v_course_knownSteps f_course_rows  u_2 hu_2) kRX4_137 [3, 4] rfl rfl rfl rfl ⟨⟨(Nat.le_of_ble_eq_true rfl), (Nat.le_of_ble_eq_true rfl)⟩, Nat.zero_le _, Nat.zero_le _⟩ rfl rfl (Nat.le_of_ble_eq_true rfl) dX4_asSniff_21 (fun H locs hP hS => ?_)
  refine lv_iadd hx hb dX4_asSniff_24 ?_
  obtain rfl := Option.some.inj hf
  exact hret H locs _ ls rfl hP hS dX4_asSniff_25

abbrev w_X4_asWidow (E : Ev) (p_this : Nat) (p_script : Nat) (p_told : Nat) (p_draft : Nat) (p_course : Nat) (p_trial : Nat) (p_imageZero : Nat) (p_imageOne : Nat) (p_ledDoughs : Nat) (p_ledOvens : Nat) (p_rowSearch : Nat) (p_told_ovenNumbers : Nat) (p_told_doughNumbers : Nat) (v_keptImages : Int32) (v_ledCount : Int32) (v_traceSum : Int64) (v_told_ovenCount : Int32) (v_told_doughCount : Int32) (f_told_doughNumbers : Nat → Int32) : va_W := [(p_this, .inr (4, [.ref p_script, .ref p_told, .ref p_draft, .ref p_course, .ref p_trial, .ref p_imageZero, .ref p_imageOne, .int v_keptImages, .ref p_ledDoughs, .ref p_ledOvens, .int v_ledCount, .ref p_rowSearch, .long v_traceSum])), (p_told, .inr (3, [.ref p_told_ovenNumbers, .ref p_told_doughNumbers, .int v_told_ovenCount, .int v_told_doughCount])), (p_told_doughNumbers, .inl (E.2.1, 30, .inl f_told_doughNumbers))]
set_option maxHeartbeats 4000000 in
set_option maxRecDepth 100000 in
theorem m_X4_asWidow {l : Launch} (E : Ev) (p_this : Nat) (p_script : Nat) (p_told : Nat) (p_draft : Nat) (p_course : Nat) (p_trial : Nat) (p_imageZero : Nat) (p_imageOne : Nat) (p_ledDoughs : Nat) (p_ledOvens : Nat) (p_rowSearch : Nat) (p_told_ovenNumbers : Nat) (p_told_doughNumbers : Nat) (v_keptImages : Int32) (v_ledCount : Int32) (v_traceSum : Int64) (v_told_ovenCount : Int32) (v_told_doughCount : Int32) (f_told_doughNumbers : Nat → Int32) (x1 : Int32) (res : Int32 × Int64) (hf : f_X4_asWidow  v_told_doughCount f_told_doughNumbers v_traceSum x1 = some res) : MutI l E 5 yX4_asWidow cX4_asWidow 2 .int [.ref p_this, .int x1] (w_X4_asWidow E p_this p_script p_told p_draft p_course p_trial p_imageZero p_imageOne p_ledDoughs p_ledOvens p_rowSearch p_told_ovenNumbers p_told_doughNumbers v_keptImages v_ledCount v_traceSum v_told_ovenCount v_told_doughCount f_told_doughNumbers) (w_X4_asWidow E p_this p_script p_told p_draft p_course p_trial p_imageZero p_imageOne p_ledDoughs p_ledOvens p_rowSearch p_told_ovenNumbers p_told_doughNumbers v_keptImages v_ledCount res.2 v_told_ovenCount v_told_doughCount f_told_doughNumbers) res.1 := by
  refine MutI.of (by decide) (Nat.le_of_ble_eq_true rfl) ?_
  intro p e s m args below meth c Q A X hK hA hret H locs ls hl hP hD hS
  obtain ⟨hx, hb, hml, hown, hts, hrt, hlk⟩ := id X
  have hl : lv_has ls 2 [(0, .ref p_this), (1, .int x1)] := hl
  unfold f_X4_asWidow at hf
  refine lv_aload_n hx hb dX4_asWidow_0 rfl (lv_at hl 0 rfl) ?_
  refine lv_dup hx hb dX4_asWidow_1 rfl ?_
  refine gf_RX4_221 X hK hP 0 rfl rfl dX4_asWidow_2 ?_
  refine lv_ldc2 (v := LC_10000) hx hb hown (hts _ q562) dX4_asWidow_5 ?_
  refine lv_ladd hx hb dX4_asWidow_8 ?_
  refine pf_RX4_221 X hK hP hD hS 0 rfl rfl dX4_asWidow_9 (fun H locs hP hD hS => ?_)
  have hP : va_P E.1 classes (w_X4_asWidow E p_this p_script p_told p_draft p_course p_trial p_imageZero p_imageOne p_ledDoughs p_ledOvens p_rowSearch p_told_ovenNumbers p_told_doughNumbers v_keptImages v_ledCount (v_traceSum + LC_10000) v_told_ovenCount v_told_doughCount f_told_doughNumbers) H := hP
  have hD : va_D A (w_X4_asWidow E p_this p_script p_told p_draft p_course p_trial p_imageZero p_imageOne p_ledDoughs p_ledOvens p_rowSearch p_told_ovenNumbers p_told_doughNumbers v_keptImages v_ledCount (v_traceSum + LC_10000) v_told_ovenCount v_told_doughCount f_told_doughNumbers) := hD
  refine lv_aload_n hx hb dX4_asWidow_12 rfl (lv_at hl 0 rfl) ?_
  refine lv_iload_n hx hb dX4_asWidow_13 rfl (lv_at hl 1 rfl) ?_
  obtain ⟨u_1, hu_1, hf⟩ := ob hf
  refine mV X hK hA hP hD hS hl.1 (m_X4_asHerring (l := l) E p_this p_script p_told p_draft p_course p_trial p_imageZero p_imageOne p_ledDoughs p_ledOvens p_rowSearch p_told_ovenNumbers p_told_doughNumbers v_keptImages v_ledCount (v_traceSum + LC_10000) v_told_ovenCount v_told_doughCount f_told_doughNumbers x1 u_1 hu_1) kRX4_202 [0, 1, 2] rfl rfl (by simp only [w_X4_asHerring, List.map]) rfl rfl rfl ⟨⟨(Nat.le_of_ble_eq_true rfl), (Nat.le_of_ble_eq_true rfl)⟩, Nat.zero_le _, Nat.zero_le _⟩ rfl rfl (Nat.le_of_ble_eq_true rfl) dX4_asWidow_14 (fun H locs hP hD hS => ?_)
  have hP : va_P E.1 classes (w_X4_asWidow E p_this p_script p_told p_draft p_course p_trial p_imageZero p_imageOne p_ledDoughs p_ledOvens p_rowSearch p_told_ovenNumbers p_told_doughNumbers v_keptImages v_ledCount u_1.2 v_told_ovenCount v_told_doughCount f_told_doughNumbers) H := hP
  have hD : va_D A (w_X4_asWidow E p_this p_script p_told p_draft p_course p_trial p_imageZero p_imageOne p_ledDoughs p_ledOvens p_rowSearch p_told_ovenNumbers p_told_doughNumbers v_keptImages v_ledCount u_1.2 v_told_ovenCount v_told_doughCount f_told_doughNumbers) := hD
  refine lv_iload_n hx hb dX4_asWidow_17 rfl (lv_at hl 1 rfl) ?_
  refine lv_iadd hx hb dX4_asWidow_18 ?_
  obtain rfl := Option.some.inj hf
  exact hret H locs _ ls rfl hP hS dX4_asWidow_19

abbrev w_X4_mark (E : Ev) (p_this : Nat) (p_script : Nat) (p_told : Nat) (p_draft : Nat) (p_course : Nat) (p_trial : Nat) (p_imageZero : Nat) (p_imageOne : Nat) (p_ledDoughs : Nat) (p_ledOvens : Nat) (p_rowSearch : Nat) (p_told_ovenNumbers : Nat) (p_told_doughNumbers : Nat) (p_course_rows : Nat) (v_keptImages : Int32) (v_ledCount : Int32) (v_traceSum : Int64) (v_told_ovenCount : Int32) (v_told_doughCount : Int32) (v_course_knownSteps : Int32) (f_told_doughNumbers : Nat → Int32) (f_course_rows : Nat → Int32) : va_W := [(p_this, .inr (4, [.ref p_script, .ref p_told, .ref p_draft, .ref p_course, .ref p_trial, .ref p_imageZero, .ref p_imageOne, .int v_keptImages, .ref p_ledDoughs, .ref p_ledOvens, .int v_ledCount, .ref p_rowSearch, .long v_traceSum])), (p_told, .inr (3, [.ref p_told_ovenNumbers, .ref p_told_doughNumbers, .int v_told_ovenCount, .int v_told_doughCount])), (p_told_doughNumbers, .inl (E.2.1, 30, .inl f_told_doughNumbers)), (p_course, .inr (0, [.ref p_course_rows, .int v_course_knownSteps])), (p_course_rows, .inl (E.2.1, 154, .inl f_course_rows))]
set_option maxHeartbeats 4000000 in
set_option maxRecDepth 100000 in
theorem m_X4_mark {l : Launch} (E : Ev) (p_this : Nat) (p_script : Nat) (p_told : Nat) (p_draft : Nat) (p_course : Nat) (p_trial : Nat) (p_imageZero : Nat) (p_imageOne : Nat) (p_ledDoughs : Nat) (p_ledOvens : Nat) (p_rowSearch : Nat) (p_told_ovenNumbers : Nat) (p_told_doughNumbers : Nat) (p_course_rows : Nat) (v_keptImages : Int32) (v_ledCount : Int32) (v_traceSum : Int64) (v_told_ovenCount : Int32) (v_told_doughCount : Int32) (v_course_knownSteps : Int32) (f_told_doughNumbers : Nat → Int32) (f_course_rows : Nat → Int32) (x1 : Int32) (x2 : Int32) (res : Int32 × Int64) (hf : f_X4_mark  v_told_doughCount v_course_knownSteps f_told_doughNumbers f_course_rows v_traceSum x1 x2 = some res) : MutI l E 6 yX4_mark cX4_mark 3 .int [.ref p_this, .int x1, .int x2] (w_X4_mark E p_this p_script p_told p_draft p_course p_trial p_imageZero p_imageOne p_ledDoughs p_ledOvens p_rowSearch p_told_ovenNumbers p_told_doughNumbers p_course_rows v_keptImages v_ledCount v_traceSum v_told_ovenCount v_told_doughCount v_course_knownSteps f_told_doughNumbers f_course_rows) (w_X4_mark E p_this p_script p_told p_draft p_course p_trial p_imageZero p_imageOne p_ledDoughs p_ledOvens p_rowSearch p_told_ovenNumbers p_told_doughNumbers p_course_rows v_keptImages v_ledCount res.2 v_told_ovenCount v_told_doughCount v_course_knownSteps f_told_doughNumbers f_course_rows) res.1 := by
  refine MutI.of (by decide) (Nat.le_of_ble_eq_true rfl) ?_
  intro p e s m args below meth c Q A X hK hA hret H locs ls hl hP hD hS
  obtain ⟨hx, hb, hml, hown, hts, hrt, hlk⟩ := id X
  have hl : lv_has ls 3 [(0, .ref p_this), (1, .int x1), (2, .int x2)] := hl
  unfold f_X4_mark at hf
  refine lv_aload_n hx hb dX4_mark_0 rfl (lv_at hl 0 rfl) ?_
  refine gf_RX4_19 X hK hP 0 rfl rfl dX4_mark_1 ?_
  refine lv_iload_n hx hb dX4_mark_4 rfl (lv_at hl 2 rfl) ?_
  obtain ⟨u_1, hu_1, hf⟩ := ob hf
  refine pV X hK hA hP hS hl.1 (m_X3_hasDough (l := l) E p_told p_told_ovenNumbers p_told_doughNumbers v_told_ovenCount v_told_doughCount x2 u_1 hu_1) kRX4_99 [1] rfl rfl rfl rfl ⟨⟨(Nat.le_of_ble_eq_true rfl), (Nat.le_of_ble_eq_true rfl)⟩, Nat.zero_le _, Nat.zero_le _⟩ rfl rfl (Nat.le_of_ble_eq_true rfl) dX4_mark_5 (fun H locs hP hS => ?_)
  refine lv_if_ne (tgt := 14) hx hb dX4_mark_8 (by decide) (fun c_2 => ?_) (fun c_2 => ?_)
  · replace hf := of c_2 hf
    refine lv_iload_n hx hb dX4_mark_14 rfl (lv_at hl 1 rfl) ?_
    by_cases c_3 : x1 = 0
    · replace hf := ot c_3 hf
      refine lv_tableIn (off := 37) (tgt := 52) hx hb dX4_mark_15 (by rw [c_3]; decide) (by rw [c_3]; decide) (by rw [c_3]; rfl) (by decide) ?_
      refine lv_aload_n hx hb dX4_mark_52 rfl (lv_at hl 0 rfl) ?_
      refine lv_iload_n hx hb dX4_mark_53 rfl (lv_at hl 2 rfl) ?_
      obtain ⟨u_4, hu_4, hf⟩ := ob hf
      refine mV X hK hA hP hD hS hl.1 (m_X4_asDough (l := l) E p_this p_script p_told p_draft p_course p_trial p_imageZero p_imageOne p_ledDoughs p_ledOvens p_rowSearch p_told_ovenNumbers p_told_doughNumbers v_keptImages v_ledCount v_traceSum v_told_ovenCount v_told_doughCount f_told_doughNumbers x2 u_4 hu_4) kRX4_196 [0, 1, 2] rfl rfl (by simp only [w_X4_asDough, List.map]) rfl rfl rfl ⟨⟨(Nat.le_of_ble_eq_true rfl), (Nat.le_of_ble_eq_true rfl)⟩, Nat.zero_le _, Nat.zero_le _⟩ rfl rfl (Nat.le_of_ble_eq_true rfl) dX4_mark_54 (fun H locs hP hD hS => ?_)
      have hP : va_P E.1 classes (w_X4_mark E p_this p_script p_told p_draft p_course p_trial p_imageZero p_imageOne p_ledDoughs p_ledOvens p_rowSearch p_told_ovenNumbers p_told_doughNumbers p_course_rows v_keptImages v_ledCount u_4.2 v_told_ovenCount v_told_doughCount v_course_knownSteps f_told_doughNumbers f_course_rows) H := hP
      have hD : va_D A (w_X4_mark E p_this p_script p_told p_draft p_course p_trial p_imageZero p_imageOne p_ledDoughs p_ledOvens p_rowSearch p_told_ovenNumbers p_told_doughNumbers p_course_rows v_keptImages v_ledCount u_4.2 v_told_ovenCount v_told_doughCount v_course_knownSteps f_told_doughNumbers f_course_rows) := hD
      obtain rfl := Option.some.inj hf
      exact hret H locs _ ls rfl hP hS dX4_mark_57
    · replace hf := of c_3 hf
      by_cases c_5 : x1 = 1
      · replace hf := ot c_5 hf
        refine lv_tableIn (off := 43) (tgt := 58) hx hb dX4_mark_15 (by rw [c_5]; decide) (by rw [c_5]; decide) (by rw [c_5]; rfl) (by decide) ?_
        refine lv_aload_n hx hb dX4_mark_58 rfl (lv_at hl 0 rfl) ?_
        refine lv_iload_n hx hb dX4_mark_59 rfl (lv_at hl 2 rfl) ?_
        obtain ⟨u_6, hu_6, hf⟩ := ob hf
        refine mV X hK hA hP hD hS hl.1 (m_X4_asCake (l := l) E p_this p_script p_told p_draft p_course p_trial p_imageZero p_imageOne p_ledDoughs p_ledOvens p_rowSearch p_told_ovenNumbers p_told_doughNumbers p_course_rows v_keptImages v_ledCount v_traceSum v_told_ovenCount v_told_doughCount v_course_knownSteps f_told_doughNumbers f_course_rows x2 u_6 hu_6) kRX4_199 [0, 1, 2, 3, 4] rfl rfl (by simp only [w_X4_asCake, List.map]) rfl rfl rfl ⟨⟨(Nat.le_of_ble_eq_true rfl), (Nat.le_of_ble_eq_true rfl)⟩, Nat.zero_le _, Nat.zero_le _⟩ rfl rfl (Nat.le_of_ble_eq_true rfl) dX4_mark_60 (fun H locs hP hD hS => ?_)
        have hP : va_P E.1 classes (w_X4_mark E p_this p_script p_told p_draft p_course p_trial p_imageZero p_imageOne p_ledDoughs p_ledOvens p_rowSearch p_told_ovenNumbers p_told_doughNumbers p_course_rows v_keptImages v_ledCount u_6.2 v_told_ovenCount v_told_doughCount v_course_knownSteps f_told_doughNumbers f_course_rows) H := hP
        have hD : va_D A (w_X4_mark E p_this p_script p_told p_draft p_course p_trial p_imageZero p_imageOne p_ledDoughs p_ledOvens p_rowSearch p_told_ovenNumbers p_told_doughNumbers p_course_rows v_keptImages v_ledCount u_6.2 v_told_ovenCount v_told_doughCount v_course_knownSteps f_told_doughNumbers f_course_rows) := hD
        obtain rfl := Option.some.inj hf
        exact hret H locs _ ls rfl hP hS dX4_mark_63
      · replace hf := of c_5 hf
        by_cases c_7 : x1 = 2
        · replace hf := ot c_7 hf
          refine lv_tableIn (off := 49) (tgt := 64) hx hb dX4_mark_15 (by rw [c_7]; decide) (by rw [c_7]; decide) (by rw [c_7]; rfl) (by decide) ?_
          refine lv_aload_n hx hb dX4_mark_64 rfl (lv_at hl 0 rfl) ?_
          refine lv_iload_n hx hb dX4_mark_65 rfl (lv_at hl 2 rfl) ?_
          obtain ⟨u_8, hu_8, hf⟩ := ob hf
          refine mV X hK hA hP hD hS hl.1 (m_X4_asHerring (l := l) E p_this p_script p_told p_draft p_course p_trial p_imageZero p_imageOne p_ledDoughs p_ledOvens p_rowSearch p_told_ovenNumbers p_told_doughNumbers v_keptImages v_ledCount v_traceSum v_told_ovenCount v_told_doughCount f_told_doughNumbers x2 u_8 hu_8) kRX4_202 [0, 1, 2] rfl rfl (by simp only [w_X4_asHerring, List.map]) rfl rfl rfl ⟨⟨(Nat.le_of_ble_eq_true rfl), (Nat.le_of_ble_eq_true rfl)⟩, Nat.zero_le _, Nat.zero_le _⟩ rfl rfl (Nat.le_of_ble_eq_true rfl) dX4_mark_66 (fun H locs hP hD hS => ?_)
          have hP : va_P E.1 classes (w_X4_mark E p_this p_script p_told p_draft p_course p_trial p_imageZero p_imageOne p_ledDoughs p_ledOvens p_rowSearch p_told_ovenNumbers p_told_doughNumbers p_course_rows v_keptImages v_ledCount u_8.2 v_told_ovenCount v_told_doughCount v_course_knownSteps f_told_doughNumbers f_course_rows) H := hP
          have hD : va_D A (w_X4_mark E p_this p_script p_told p_draft p_course p_trial p_imageZero p_imageOne p_ledDoughs p_ledOvens p_rowSearch p_told_ovenNumbers p_told_doughNumbers p_course_rows v_keptImages v_ledCount u_8.2 v_told_ovenCount v_told_doughCount v_course_knownSteps f_told_doughNumbers f_course_rows) := hD
          obtain rfl := Option.some.inj hf
          exact hret H locs _ ls rfl hP hS dX4_mark_69
        · replace hf := of c_7 hf
          by_cases c_9 : x1 = 3
          · replace hf := ot c_9 hf
            refine lv_tableIn (off := 55) (tgt := 70) hx hb dX4_mark_15 (by rw [c_9]; decide) (by rw [c_9]; decide) (by rw [c_9]; rfl) (by decide) ?_
            refine lv_aload_n hx hb dX4_mark_70 rfl (lv_at hl 0 rfl) ?_
            refine lv_iload_n hx hb dX4_mark_71 rfl (lv_at hl 2 rfl) ?_
            obtain ⟨u_10, hu_10, hf⟩ := ob hf
            refine mV X hK hA hP hD hS hl.1 (m_X4_asBride (l := l) E p_this p_script p_told p_draft p_course p_trial p_imageZero p_imageOne p_ledDoughs p_ledOvens p_rowSearch p_told_ovenNumbers p_told_doughNumbers p_course_rows v_keptImages v_ledCount v_traceSum v_told_ovenCount v_told_doughCount v_course_knownSteps f_told_doughNumbers f_course_rows x2 u_10 hu_10) kRX4_205 [0, 1, 2, 3, 4] rfl rfl (by simp only [w_X4_asBride, List.map]) rfl rfl rfl ⟨⟨(Nat.le_of_ble_eq_true rfl), (Nat.le_of_ble_eq_true rfl)⟩, Nat.zero_le _, Nat.zero_le _⟩ rfl rfl (Nat.le_of_ble_eq_true rfl) dX4_mark_72 (fun H locs hP hD hS => ?_)
            have hP : va_P E.1 classes (w_X4_mark E p_this p_script p_told p_draft p_course p_trial p_imageZero p_imageOne p_ledDoughs p_ledOvens p_rowSearch p_told_ovenNumbers p_told_doughNumbers p_course_rows v_keptImages v_ledCount u_10.2 v_told_ovenCount v_told_doughCount v_course_knownSteps f_told_doughNumbers f_course_rows) H := hP
            have hD : va_D A (w_X4_mark E p_this p_script p_told p_draft p_course p_trial p_imageZero p_imageOne p_ledDoughs p_ledOvens p_rowSearch p_told_ovenNumbers p_told_doughNumbers p_course_rows v_keptImages v_ledCount u_10.2 v_told_ovenCount v_told_doughCount v_course_knownSteps f_told_doughNumbers f_course_rows) := hD
            obtain rfl := Option.some.inj hf
            exact hret H locs _ ls rfl hP hS dX4_mark_75
          · replace hf := of c_9 hf
            by_cases c_11 : x1 = 4
            · replace hf := ot c_11 hf
              refine lv_tableIn (off := 61) (tgt := 76) hx hb dX4_mark_15 (by rw [c_11]; decide) (by rw [c_11]; decide) (by rw [c_11]; rfl) (by decide) ?_
              refine lv_aload_n hx hb dX4_mark_76 rfl (lv_at hl 0 rfl) ?_
              refine lv_iload_n hx hb dX4_mark_77 rfl (lv_at hl 2 rfl) ?_
              obtain ⟨u_12, hu_12, hf⟩ := ob hf
              refine mV X hK hA hP hD hS hl.1 (m_X4_asWidow (l := l) E p_this p_script p_told p_draft p_course p_trial p_imageZero p_imageOne p_ledDoughs p_ledOvens p_rowSearch p_told_ovenNumbers p_told_doughNumbers v_keptImages v_ledCount v_traceSum v_told_ovenCount v_told_doughCount f_told_doughNumbers x2 u_12 hu_12) kRX4_208 [0, 1, 2] rfl rfl (by simp only [w_X4_asWidow, List.map]) rfl rfl rfl ⟨⟨(Nat.le_of_ble_eq_true rfl), (Nat.le_of_ble_eq_true rfl)⟩, Nat.zero_le _, Nat.zero_le _⟩ rfl rfl (Nat.le_of_ble_eq_true rfl) dX4_mark_78 (fun H locs hP hD hS => ?_)
              have hP : va_P E.1 classes (w_X4_mark E p_this p_script p_told p_draft p_course p_trial p_imageZero p_imageOne p_ledDoughs p_ledOvens p_rowSearch p_told_ovenNumbers p_told_doughNumbers p_course_rows v_keptImages v_ledCount u_12.2 v_told_ovenCount v_told_doughCount v_course_knownSteps f_told_doughNumbers f_course_rows) H := hP
              have hD : va_D A (w_X4_mark E p_this p_script p_told p_draft p_course p_trial p_imageZero p_imageOne p_ledDoughs p_ledOvens p_rowSearch p_told_ovenNumbers p_told_doughNumbers p_course_rows v_keptImages v_ledCount u_12.2 v_told_ovenCount v_told_doughCount v_course_knownSteps f_told_doughNumbers f_course_rows) := hD
              obtain rfl := Option.some.inj hf
              exact hret H locs _ ls rfl hP hS dX4_mark_81
            · replace hf := of c_11 hf
              by_cases c_13 : x1 = 5
              · replace hf := ot c_13 hf
                refine lv_tableIn (off := 67) (tgt := 82) hx hb dX4_mark_15 (by rw [c_13]; decide) (by rw [c_13]; decide) (by rw [c_13]; rfl) (by decide) ?_
                refine lv_aload_n hx hb dX4_mark_82 rfl (lv_at hl 0 rfl) ?_
                refine lv_iload_n hx hb dX4_mark_83 rfl (lv_at hl 2 rfl) ?_
                obtain ⟨u_14, hu_14, hf⟩ := ob hf
                refine mV X hK hA hP hD hS hl.1 (m_X4_asSniff (l := l) E p_this p_script p_told p_draft p_course p_trial p_imageZero p_imageOne p_ledDoughs p_ledOvens p_rowSearch p_told_ovenNumbers p_told_doughNumbers p_course_rows v_keptImages v_ledCount v_traceSum v_told_ovenCount v_told_doughCount v_course_knownSteps f_told_doughNumbers f_course_rows x2 u_14 hu_14) kRX4_211 [0, 1, 2, 3, 4] rfl rfl (by simp only [w_X4_asSniff, List.map]) rfl rfl rfl ⟨⟨(Nat.le_of_ble_eq_true rfl), (Nat.le_of_ble_eq_true rfl)⟩, Nat.zero_le _, Nat.zero_le _⟩ rfl rfl (Nat.le_of_ble_eq_true rfl) dX4_mark_84 (fun H locs hP hD hS => ?_)
                have hP : va_P E.1 classes (w_X4_mark E p_this p_script p_told p_draft p_course p_trial p_imageZero p_imageOne p_ledDoughs p_ledOvens p_rowSearch p_told_ovenNumbers p_told_doughNumbers p_course_rows v_keptImages v_ledCount u_14.2 v_told_ovenCount v_told_doughCount v_course_knownSteps f_told_doughNumbers f_course_rows) H := hP
                have hD : va_D A (w_X4_mark E p_this p_script p_told p_draft p_course p_trial p_imageZero p_imageOne p_ledDoughs p_ledOvens p_rowSearch p_told_ovenNumbers p_told_doughNumbers p_course_rows v_keptImages v_ledCount u_14.2 v_told_ovenCount v_told_doughCount v_course_knownSteps f_told_doughNumbers f_course_rows) := hD
                obtain rfl := Option.some.inj hf
                exact hret H locs _ ls rfl hP hS dX4_mark_87
              · replace hf := of c_13 hf
                refine lv_tableOut (tgt := 88) hx hb dX4_mark_15 (by
                    have e_3 := lv_neT c_3 (show (0 : Int32).toInt = 0 by decide)
                    have e_5 := lv_neT c_5 (show (1 : Int32).toInt = 1 by decide)
                    have e_7 := lv_neT c_7 (show (2 : Int32).toInt = 2 by decide)
                    have e_9 := lv_neT c_9 (show (3 : Int32).toInt = 3 by decide)
                    have e_11 := lv_neT c_11 (show (4 : Int32).toInt = 4 by decide)
                    have e_13 := lv_neT c_13 (show (5 : Int32).toInt = 5 by decide)
                    omega) (by decide) ?_
                refine lv_ldc hx hb hown (hts _ q304) dX4_mark_88 ?_
                obtain rfl := Option.some.inj hf
                exact hret H locs _ ls rfl hP hS dX4_mark_90
  · replace hf := ot c_2 hf
    refine lv_ldc hx hb hown (hts _ q304) dX4_mark_11 ?_
    obtain rfl := Option.some.inj hf
    exact hret H locs _ ls rfl hP hS dX4_mark_13

abbrev w_X4_imageCourse (E : Ev) (p_this : Nat) (p_script : Nat) (p_told : Nat) (p_draft : Nat) (p_course : Nat) (p_trial : Nat) (p_imageZero : Nat) (p_imageOne : Nat) (p_ledDoughs : Nat) (p_ledOvens : Nat) (p_rowSearch : Nat) (v_keptImages : Int32) (v_ledCount : Int32) (v_traceSum : Int64) : va_W := [(p_this, .inr (4, [.ref p_script, .ref p_told, .ref p_draft, .ref p_course, .ref p_trial, .ref p_imageZero, .ref p_imageOne, .int v_keptImages, .ref p_ledDoughs, .ref p_ledOvens, .int v_ledCount, .ref p_rowSearch, .long v_traceSum]))]
set_option maxHeartbeats 4000000 in
set_option maxRecDepth 100000 in
theorem m_X4_imageCourse {l : Launch} (E : Ev) (p_this : Nat) (p_script : Nat) (p_told : Nat) (p_draft : Nat) (p_course : Nat) (p_trial : Nat) (p_imageZero : Nat) (p_imageOne : Nat) (p_ledDoughs : Nat) (p_ledOvens : Nat) (p_rowSearch : Nat) (v_keptImages : Int32) (v_ledCount : Int32) (v_traceSum : Int64) (x1 : Int32) (res : Nat) (hf : f_X4_imageCourse p_imageZero p_imageOne  x1 = some res) : PureR l E 1 yX4_imageCourse cX4_imageCourse 2 (.object "OvenNoses$Course") [.ref p_this, .int x1] (w_X4_imageCourse E p_this p_script p_told p_draft p_course p_trial p_imageZero p_imageOne p_ledDoughs p_ledOvens p_rowSearch v_keptImages v_ledCount v_traceSum) res := by
  refine PureR.of (by decide) (Nat.le_of_ble_eq_true rfl) ?_
  intro p e s m args below meth c Q A X hK hA hret H locs ls hl hP hS
  obtain ⟨hx, hb, hml, hown, hts, hrt, hlk⟩ := id X
  have hl : lv_has ls 2 [(0, .ref p_this), (1, .int x1)] := hl
  unfold f_X4_imageCourse at hf
  refine lv_iload_n hx hb dX4_imageCourse_0 rfl (lv_at hl 1 rfl) ?_
  refine lv_if_ne (tgt := 11) hx hb dX4_imageCourse_1 (by decide) (fun c_1 => ?_) (fun c_1 => ?_)
  · replace hf := of c_1 hf
    refine lv_aload_n hx hb dX4_imageCourse_11 rfl (lv_at hl 0 rfl) ?_
    refine gf_RX4_39 X hK hP 0 rfl rfl dX4_imageCourse_12 ?_
    obtain rfl := Option.some.inj hf
    exact hret H locs _ ls hP hS dX4_imageCourse_15
  · replace hf := ot c_1 hf
    refine lv_aload_n hx hb dX4_imageCourse_4 rfl (lv_at hl 0 rfl) ?_
    refine gf_RX4_36 X hK hP 0 rfl rfl dX4_imageCourse_5 ?_
    refine lv_goto (tgt := 15) hx hb dX4_imageCourse_8 (by decide) ?_
    obtain rfl := Option.some.inj hf
    exact hret H locs _ ls hP hS dX4_imageCourse_15

abbrev w_X4_keep (E : Ev) (p_this : Nat) (p_script : Nat) (p_told : Nat) (p_draft : Nat) (p_course : Nat) (p_trial : Nat) (p_imageZero : Nat) (p_imageOne : Nat) (p_ledDoughs : Nat) (p_ledOvens : Nat) (p_rowSearch : Nat) (p_imageZero_rows : Nat) (p_course_rows : Nat) (p_imageOne_rows : Nat) (v_keptImages : Int32) (v_ledCount : Int32) (v_traceSum : Int64) (v_imageZero_knownSteps : Int32) (v_course_knownSteps : Int32) (v_imageOne_knownSteps : Int32) (f_imageZero_rows : Nat → Int32) (f_course_rows : Nat → Int32) (f_imageOne_rows : Nat → Int32) : va_W := [(p_this, .inr (4, [.ref p_script, .ref p_told, .ref p_draft, .ref p_course, .ref p_trial, .ref p_imageZero, .ref p_imageOne, .int v_keptImages, .ref p_ledDoughs, .ref p_ledOvens, .int v_ledCount, .ref p_rowSearch, .long v_traceSum])), (p_imageZero, .inr (0, [.ref p_imageZero_rows, .int v_imageZero_knownSteps])), (p_course, .inr (0, [.ref p_course_rows, .int v_course_knownSteps])), (p_imageZero_rows, .inl (E.2.1, 154, .inl f_imageZero_rows)), (p_course_rows, .inl (E.2.1, 154, .inl f_course_rows)), (p_imageOne, .inr (0, [.ref p_imageOne_rows, .int v_imageOne_knownSteps])), (p_imageOne_rows, .inl (E.2.1, 154, .inl f_imageOne_rows))]
set_option maxHeartbeats 4000000 in
set_option maxRecDepth 100000 in
theorem m_X4_keep {l : Launch} (E : Ev) (p_this : Nat) (p_script : Nat) (p_told : Nat) (p_draft : Nat) (p_course : Nat) (p_trial : Nat) (p_imageZero : Nat) (p_imageOne : Nat) (p_ledDoughs : Nat) (p_ledOvens : Nat) (p_rowSearch : Nat) (p_imageZero_rows : Nat) (p_course_rows : Nat) (p_imageOne_rows : Nat) (v_keptImages : Int32) (v_ledCount : Int32) (v_traceSum : Int64) (v_imageZero_knownSteps : Int32) (v_course_knownSteps : Int32) (v_imageOne_knownSteps : Int32) (f_imageZero_rows : Nat → Int32) (f_course_rows : Nat → Int32) (f_imageOne_rows : Nat → Int32) (x1 : Int32) (res : Int32 × Int32 × Int32 × Int32 × (Nat → Int32) × (Nat → Int32)) (hf : f_X4_keep  v_course_knownSteps f_course_rows v_keptImages v_imageZero_knownSteps v_imageOne_knownSteps f_imageZero_rows f_imageOne_rows x1 = some res) : MutI l E 3 yX4_keep cX4_keep 2 .int [.ref p_this, .int x1] (w_X4_keep E p_this p_script p_told p_draft p_course p_trial p_imageZero p_imageOne p_ledDoughs p_ledOvens p_rowSearch p_imageZero_rows p_course_rows p_imageOne_rows v_keptImages v_ledCount v_traceSum v_imageZero_knownSteps v_course_knownSteps v_imageOne_knownSteps f_imageZero_rows f_course_rows f_imageOne_rows) (w_X4_keep E p_this p_script p_told p_draft p_course p_trial p_imageZero p_imageOne p_ledDoughs p_ledOvens p_rowSearch p_imageZero_rows p_course_rows p_imageOne_rows res.2.1 v_ledCount v_traceSum res.2.2.1 v_course_knownSteps res.2.2.2.1 res.2.2.2.2.1 f_course_rows res.2.2.2.2.2) res.1 := by
  refine MutI.of (by decide) (Nat.le_of_ble_eq_true rfl) ?_
  intro p e s m args below meth c Q A X hK hA hret H locs ls hl hP hD hS
  obtain ⟨hx, hb, hml, hown, hts, hrt, hlk⟩ := id X
  have hl : lv_has ls 2 [(0, .ref p_this), (1, .int x1)] := hl
  unfold f_X4_keep at hf
  refine lv_iload_n hx hb dX4_keep_0 rfl (lv_at hl 1 rfl) ?_
  refine lv_if_lt (tgt := 9) hx hb dX4_keep_1 (by decide) (fun c_1 => ?_) (fun c_1 => ?_)
  · replace hf := ot c_1 hf
    refine lv_iconst (v := (-1 : Int32)) hx hb dX4_keep_9 (by decide) ?_
    obtain rfl := Option.some.inj hf
    exact hret H locs _ ls rfl hP hS dX4_keep_10
  · replace hf := of c_1 hf
    refine lv_iload_n hx hb dX4_keep_4 rfl (lv_at hl 1 rfl) ?_
    refine lv_iconst (v := (2 : Int32)) hx hb dX4_keep_5 (by decide) ?_
    refine lv_icmp_lt (tgt := 11) hx hb dX4_keep_6 (by decide) (fun c_2 => ?_) (fun c_2 => ?_)
    · replace hf := ot c_2 hf
      refine lv_aload_n hx hb dX4_keep_11 rfl (lv_at hl 0 rfl) ?_
      refine lv_iload_n hx hb dX4_keep_12 rfl (lv_at hl 1 rfl) ?_
      by_cases c_4 : x1 = 0
      · replace hf := ot c_4 hf
        refine pVR X hK hA hP hS hl.1 (m_X4_imageCourse E p_this p_script p_told p_draft p_course p_trial p_imageZero p_imageOne p_ledDoughs p_ledOvens p_rowSearch v_keptImages v_ledCount v_traceSum x1 p_imageZero (by simp [f_X4_imageCourse, c_4])) kRX4_214 [0] rfl rfl rfl rfl ⟨⟨(Nat.le_of_ble_eq_true rfl), (Nat.le_of_ble_eq_true rfl)⟩, Nat.zero_le _, Nat.zero_le _⟩ rfl rfl (Nat.le_of_ble_eq_true rfl) dX4_keep_13 (fun H locs hP hS => ?_)
        refine lv_aload_n hx hb dX4_keep_16 rfl (lv_at hl 0 rfl) ?_
        refine gf_RX4_29 X hK hP 0 rfl rfl dX4_keep_17 ?_
        obtain ⟨u_5, hu_5, hf⟩ := ob hf
        refine mVv X hK hA hP hD hS hl.1 (m_X0_copyAll (l := l) E p_imageZero p_imageZero_rows p_course p_course_rows v_imageZero_knownSteps v_course_knownSteps f_imageZero_rows f_course_rows  u_5 hu_5) kRX4_218 [1, 2, 3, 4] rfl rfl (by simp only [w_X0_copyAll, List.map]) rfl rfl rfl ⟨⟨(Nat.le_of_ble_eq_true rfl), (Nat.le_of_ble_eq_true rfl)⟩, Nat.zero_le _, Nat.zero_le _⟩ rfl rfl (Nat.le_of_ble_eq_true rfl) dX4_keep_20 (fun H locs hP hD hS => ?_)
        have hP : va_P E.1 classes (w_X4_keep E p_this p_script p_told p_draft p_course p_trial p_imageZero p_imageOne p_ledDoughs p_ledOvens p_rowSearch p_imageZero_rows p_course_rows p_imageOne_rows v_keptImages v_ledCount v_traceSum u_5.1 v_course_knownSteps v_imageOne_knownSteps u_5.2 f_course_rows f_imageOne_rows) H := hP
        have hD : va_D A (w_X4_keep E p_this p_script p_told p_draft p_course p_trial p_imageZero p_imageOne p_ledDoughs p_ledOvens p_rowSearch p_imageZero_rows p_course_rows p_imageOne_rows v_keptImages v_ledCount v_traceSum u_5.1 v_course_knownSteps v_imageOne_knownSteps u_5.2 f_course_rows f_imageOne_rows) := hD
        refine lv_aload_n hx hb dX4_keep_23 rfl (lv_at hl 0 rfl) ?_
        refine lv_dup hx hb dX4_keep_24 rfl ?_
        refine gf_RX4_74 X hK hP 0 rfl rfl dX4_keep_25 ?_
        refine lv_iconst (v := (1 : Int32)) hx hb dX4_keep_28 (by decide) ?_
        refine lv_iload_n hx hb dX4_keep_29 rfl (lv_at hl 1 rfl) ?_
        refine lv_ishl hx hb dX4_keep_30 ?_
        refine lv_ior hx hb dX4_keep_31 ?_
        refine pf_RX4_74 X hK hP hD hS 0 rfl rfl dX4_keep_32 (fun H locs hP hD hS => ?_)
        have hP : va_P E.1 classes (w_X4_keep E p_this p_script p_told p_draft p_course p_trial p_imageZero p_imageOne p_ledDoughs p_ledOvens p_rowSearch p_imageZero_rows p_course_rows p_imageOne_rows (v_keptImages ||| ((1 : Int32) <<< (x1 &&& 31))) v_ledCount v_traceSum u_5.1 v_course_knownSteps v_imageOne_knownSteps u_5.2 f_course_rows f_imageOne_rows) H := hP
        have hD : va_D A (w_X4_keep E p_this p_script p_told p_draft p_course p_trial p_imageZero p_imageOne p_ledDoughs p_ledOvens p_rowSearch p_imageZero_rows p_course_rows p_imageOne_rows (v_keptImages ||| ((1 : Int32) <<< (x1 &&& 31))) v_ledCount v_traceSum u_5.1 v_course_knownSteps v_imageOne_knownSteps u_5.2 f_course_rows f_imageOne_rows) := hD
        refine lv_aload_n hx hb dX4_keep_35 rfl (lv_at hl 0 rfl) ?_
        refine gf_RX4_29 X hK hP 0 rfl rfl dX4_keep_36 ?_
        obtain ⟨u_6, hu_6, hf⟩ := ob hf
        refine pV X hK hA hP hS hl.1 (m_X0_minute (l := l) E p_course p_course_rows v_course_knownSteps f_course_rows  u_6 hu_6) kRX4_137 [2, 4] rfl rfl rfl rfl ⟨⟨(Nat.le_of_ble_eq_true rfl), (Nat.le_of_ble_eq_true rfl)⟩, Nat.zero_le _, Nat.zero_le _⟩ rfl rfl (Nat.le_of_ble_eq_true rfl) dX4_keep_39 (fun H locs hP hS => ?_)
        obtain rfl := Option.some.inj hf
        exact hret H locs _ ls rfl hP hS dX4_keep_42
      · replace hf := of c_4 hf
        refine pVR X hK hA hP hS hl.1 (m_X4_imageCourse E p_this p_script p_told p_draft p_course p_trial p_imageZero p_imageOne p_ledDoughs p_ledOvens p_rowSearch v_keptImages v_ledCount v_traceSum x1 p_imageOne (by simp [f_X4_imageCourse, c_4])) kRX4_214 [0] rfl rfl rfl rfl ⟨⟨(Nat.le_of_ble_eq_true rfl), (Nat.le_of_ble_eq_true rfl)⟩, Nat.zero_le _, Nat.zero_le _⟩ rfl rfl (Nat.le_of_ble_eq_true rfl) dX4_keep_13 (fun H locs hP hS => ?_)
        refine lv_aload_n hx hb dX4_keep_16 rfl (lv_at hl 0 rfl) ?_
        refine gf_RX4_29 X hK hP 0 rfl rfl dX4_keep_17 ?_
        obtain ⟨u_7, hu_7, hf⟩ := ob hf
        refine mVv X hK hA hP hD hS hl.1 (m_X0_copyAll (l := l) E p_imageOne p_imageOne_rows p_course p_course_rows v_imageOne_knownSteps v_course_knownSteps f_imageOne_rows f_course_rows  u_7 hu_7) kRX4_218 [5, 2, 6, 4] rfl rfl (by simp only [w_X0_copyAll, List.map]) rfl rfl rfl ⟨⟨(Nat.le_of_ble_eq_true rfl), (Nat.le_of_ble_eq_true rfl)⟩, Nat.zero_le _, Nat.zero_le _⟩ rfl rfl (Nat.le_of_ble_eq_true rfl) dX4_keep_20 (fun H locs hP hD hS => ?_)
        have hP : va_P E.1 classes (w_X4_keep E p_this p_script p_told p_draft p_course p_trial p_imageZero p_imageOne p_ledDoughs p_ledOvens p_rowSearch p_imageZero_rows p_course_rows p_imageOne_rows v_keptImages v_ledCount v_traceSum v_imageZero_knownSteps v_course_knownSteps u_7.1 f_imageZero_rows f_course_rows u_7.2) H := hP
        have hD : va_D A (w_X4_keep E p_this p_script p_told p_draft p_course p_trial p_imageZero p_imageOne p_ledDoughs p_ledOvens p_rowSearch p_imageZero_rows p_course_rows p_imageOne_rows v_keptImages v_ledCount v_traceSum v_imageZero_knownSteps v_course_knownSteps u_7.1 f_imageZero_rows f_course_rows u_7.2) := hD
        refine lv_aload_n hx hb dX4_keep_23 rfl (lv_at hl 0 rfl) ?_
        refine lv_dup hx hb dX4_keep_24 rfl ?_
        refine gf_RX4_74 X hK hP 0 rfl rfl dX4_keep_25 ?_
        refine lv_iconst (v := (1 : Int32)) hx hb dX4_keep_28 (by decide) ?_
        refine lv_iload_n hx hb dX4_keep_29 rfl (lv_at hl 1 rfl) ?_
        refine lv_ishl hx hb dX4_keep_30 ?_
        refine lv_ior hx hb dX4_keep_31 ?_
        refine pf_RX4_74 X hK hP hD hS 0 rfl rfl dX4_keep_32 (fun H locs hP hD hS => ?_)
        have hP : va_P E.1 classes (w_X4_keep E p_this p_script p_told p_draft p_course p_trial p_imageZero p_imageOne p_ledDoughs p_ledOvens p_rowSearch p_imageZero_rows p_course_rows p_imageOne_rows (v_keptImages ||| ((1 : Int32) <<< (x1 &&& 31))) v_ledCount v_traceSum v_imageZero_knownSteps v_course_knownSteps u_7.1 f_imageZero_rows f_course_rows u_7.2) H := hP
        have hD : va_D A (w_X4_keep E p_this p_script p_told p_draft p_course p_trial p_imageZero p_imageOne p_ledDoughs p_ledOvens p_rowSearch p_imageZero_rows p_course_rows p_imageOne_rows (v_keptImages ||| ((1 : Int32) <<< (x1 &&& 31))) v_ledCount v_traceSum v_imageZero_knownSteps v_course_knownSteps u_7.1 f_imageZero_rows f_course_rows u_7.2) := hD
        refine lv_aload_n hx hb dX4_keep_35 rfl (lv_at hl 0 rfl) ?_
        refine gf_RX4_29 X hK hP 0 rfl rfl dX4_keep_36 ?_
        obtain ⟨u_8, hu_8, hf⟩ := ob hf
        refine pV X hK hA hP hS hl.1 (m_X0_minute (l := l) E p_course p_course_rows v_course_knownSteps f_course_rows  u_8 hu_8) kRX4_137 [2, 4] rfl rfl rfl rfl ⟨⟨(Nat.le_of_ble_eq_true rfl), (Nat.le_of_ble_eq_true rfl)⟩, Nat.zero_le _, Nat.zero_le _⟩ rfl rfl (Nat.le_of_ble_eq_true rfl) dX4_keep_39 (fun H locs hP hS => ?_)
        obtain rfl := Option.some.inj hf
        exact hret H locs _ ls rfl hP hS dX4_keep_42
    · replace hf := of c_2 hf
      refine lv_iconst (v := (-1 : Int32)) hx hb dX4_keep_9 (by decide) ?_
      obtain rfl := Option.some.inj hf
      exact hret H locs _ ls rfl hP hS dX4_keep_10

abbrev w_X4_back (E : Ev) (p_this : Nat) (p_script : Nat) (p_told : Nat) (p_draft : Nat) (p_course : Nat) (p_trial : Nat) (p_imageZero : Nat) (p_imageOne : Nat) (p_ledDoughs : Nat) (p_ledOvens : Nat) (p_rowSearch : Nat) (p_course_rows : Nat) (p_imageZero_rows : Nat) (p_imageOne_rows : Nat) (v_keptImages : Int32) (v_ledCount : Int32) (v_traceSum : Int64) (v_course_knownSteps : Int32) (v_imageZero_knownSteps : Int32) (v_imageOne_knownSteps : Int32) (f_course_rows : Nat → Int32) (f_imageZero_rows : Nat → Int32) (f_imageOne_rows : Nat → Int32) : va_W := [(p_this, .inr (4, [.ref p_script, .ref p_told, .ref p_draft, .ref p_course, .ref p_trial, .ref p_imageZero, .ref p_imageOne, .int v_keptImages, .ref p_ledDoughs, .ref p_ledOvens, .int v_ledCount, .ref p_rowSearch, .long v_traceSum])), (p_course, .inr (0, [.ref p_course_rows, .int v_course_knownSteps])), (p_imageZero, .inr (0, [.ref p_imageZero_rows, .int v_imageZero_knownSteps])), (p_course_rows, .inl (E.2.1, 154, .inl f_course_rows)), (p_imageZero_rows, .inl (E.2.1, 154, .inl f_imageZero_rows)), (p_imageOne, .inr (0, [.ref p_imageOne_rows, .int v_imageOne_knownSteps])), (p_imageOne_rows, .inl (E.2.1, 154, .inl f_imageOne_rows))]
set_option maxHeartbeats 4000000 in
set_option maxRecDepth 100000 in
theorem m_X4_back {l : Launch} (E : Ev) (p_this : Nat) (p_script : Nat) (p_told : Nat) (p_draft : Nat) (p_course : Nat) (p_trial : Nat) (p_imageZero : Nat) (p_imageOne : Nat) (p_ledDoughs : Nat) (p_ledOvens : Nat) (p_rowSearch : Nat) (p_course_rows : Nat) (p_imageZero_rows : Nat) (p_imageOne_rows : Nat) (v_keptImages : Int32) (v_ledCount : Int32) (v_traceSum : Int64) (v_course_knownSteps : Int32) (v_imageZero_knownSteps : Int32) (v_imageOne_knownSteps : Int32) (f_course_rows : Nat → Int32) (f_imageZero_rows : Nat → Int32) (f_imageOne_rows : Nat → Int32) (x1 : Int32) (res : Int32 × Int32 × (Nat → Int32)) (hf : f_X4_back  v_keptImages v_imageZero_knownSteps v_imageOne_knownSteps f_imageZero_rows f_imageOne_rows v_course_knownSteps f_course_rows x1 = some res) : MutI l E 3 yX4_back cX4_back 2 .int [.ref p_this, .int x1] (w_X4_back E p_this p_script p_told p_draft p_course p_trial p_imageZero p_imageOne p_ledDoughs p_ledOvens p_rowSearch p_course_rows p_imageZero_rows p_imageOne_rows v_keptImages v_ledCount v_traceSum v_course_knownSteps v_imageZero_knownSteps v_imageOne_knownSteps f_course_rows f_imageZero_rows f_imageOne_rows) (w_X4_back E p_this p_script p_told p_draft p_course p_trial p_imageZero p_imageOne p_ledDoughs p_ledOvens p_rowSearch p_course_rows p_imageZero_rows p_imageOne_rows v_keptImages v_ledCount v_traceSum res.2.1 v_imageZero_knownSteps v_imageOne_knownSteps res.2.2 f_imageZero_rows f_imageOne_rows) res.1 := by
  refine MutI.of (by decide) (Nat.le_of_ble_eq_true rfl) ?_
  intro p e s m args below meth c Q A X hK hA hret H locs ls hl hP hD hS
  obtain ⟨hx, hb, hml, hown, hts, hrt, hlk⟩ := id X
  have hl : lv_has ls 2 [(0, .ref p_this), (1, .int x1)] := hl
  unfold f_X4_back at hf
  refine lv_iload_n hx hb dX4_back_0 rfl (lv_at hl 1 rfl) ?_
  refine lv_if_lt (tgt := 9) hx hb dX4_back_1 (by decide) (fun c_1 => ?_) (fun c_1 => ?_)
  · replace hf := ot c_1 hf
    refine lv_iconst (v := (-1 : Int32)) hx hb dX4_back_9 (by decide) ?_
    obtain rfl := Option.some.inj hf
    exact hret H locs _ ls rfl hP hS dX4_back_10
  · replace hf := of c_1 hf
    refine lv_iload_n hx hb dX4_back_4 rfl (lv_at hl 1 rfl) ?_
    refine lv_iconst (v := (2 : Int32)) hx hb dX4_back_5 (by decide) ?_
    refine lv_icmp_lt (tgt := 11) hx hb dX4_back_6 (by decide) (fun c_2 => ?_) (fun c_2 => ?_)
    · replace hf := ot c_2 hf
      refine lv_aload_n hx hb dX4_back_11 rfl (lv_at hl 0 rfl) ?_
      refine gf_RX4_74 X hK hP 0 rfl rfl dX4_back_12 ?_
      refine lv_iconst (v := (1 : Int32)) hx hb dX4_back_15 (by decide) ?_
      refine lv_iload_n hx hb dX4_back_16 rfl (lv_at hl 1 rfl) ?_
      refine lv_ishl hx hb dX4_back_17 ?_
      refine lv_iand hx hb dX4_back_18 ?_
      refine lv_if_ne (tgt := 25) hx hb dX4_back_19 (by decide) (fun c_3 => ?_) (fun c_3 => ?_)
      · replace hf := of c_3 hf
        refine lv_aload_n hx hb dX4_back_25 rfl (lv_at hl 0 rfl) ?_
        refine gf_RX4_29 X hK hP 0 rfl rfl dX4_back_26 ?_
        refine lv_aload_n hx hb dX4_back_29 rfl (lv_at hl 0 rfl) ?_
        refine lv_iload_n hx hb dX4_back_30 rfl (lv_at hl 1 rfl) ?_
        by_cases c_5 : x1 = 0
        · replace hf := ot c_5 hf
          refine pVR X hK hA hP hS hl.1 (m_X4_imageCourse E p_this p_script p_told p_draft p_course p_trial p_imageZero p_imageOne p_ledDoughs p_ledOvens p_rowSearch v_keptImages v_ledCount v_traceSum x1 p_imageZero (by simp [f_X4_imageCourse, c_5])) kRX4_214 [0] rfl rfl rfl rfl ⟨⟨(Nat.le_of_ble_eq_true rfl), (Nat.le_of_ble_eq_true rfl)⟩, Nat.zero_le _, Nat.zero_le _⟩ rfl rfl (Nat.le_of_ble_eq_true rfl) dX4_back_31 (fun H locs hP hS => ?_)
          obtain ⟨u_6, hu_6, hf⟩ := ob hf
          refine mVv X hK hA hP hD hS hl.1 (m_X0_copyAll (l := l) E p_course p_course_rows p_imageZero p_imageZero_rows v_course_knownSteps v_imageZero_knownSteps f_course_rows f_imageZero_rows  u_6 hu_6) kRX4_218 [1, 2, 3, 4] rfl rfl (by simp only [w_X0_copyAll, List.map]) rfl rfl rfl ⟨⟨(Nat.le_of_ble_eq_true rfl), (Nat.le_of_ble_eq_true rfl)⟩, Nat.zero_le _, Nat.zero_le _⟩ rfl rfl (Nat.le_of_ble_eq_true rfl) dX4_back_34 (fun H locs hP hD hS => ?_)
          have hP : va_P E.1 classes (w_X4_back E p_this p_script p_told p_draft p_course p_trial p_imageZero p_imageOne p_ledDoughs p_ledOvens p_rowSearch p_course_rows p_imageZero_rows p_imageOne_rows v_keptImages v_ledCount v_traceSum u_6.1 v_imageZero_knownSteps v_imageOne_knownSteps u_6.2 f_imageZero_rows f_imageOne_rows) H := hP
          have hD : va_D A (w_X4_back E p_this p_script p_told p_draft p_course p_trial p_imageZero p_imageOne p_ledDoughs p_ledOvens p_rowSearch p_course_rows p_imageZero_rows p_imageOne_rows v_keptImages v_ledCount v_traceSum u_6.1 v_imageZero_knownSteps v_imageOne_knownSteps u_6.2 f_imageZero_rows f_imageOne_rows) := hD
          refine lv_aload_n hx hb dX4_back_37 rfl (lv_at hl 0 rfl) ?_
          refine gf_RX4_29 X hK hP 0 rfl rfl dX4_back_38 ?_
          obtain ⟨u_7, hu_7, hf⟩ := ob hf
          refine pV X hK hA hP hS hl.1 (m_X0_minute (l := l) E p_course p_course_rows u_6.1 u_6.2  u_7 hu_7) kRX4_137 [1, 3] rfl rfl rfl rfl ⟨⟨(Nat.le_of_ble_eq_true rfl), (Nat.le_of_ble_eq_true rfl)⟩, Nat.zero_le _, Nat.zero_le _⟩ rfl rfl (Nat.le_of_ble_eq_true rfl) dX4_back_41 (fun H locs hP hS => ?_)
          obtain rfl := Option.some.inj hf
          exact hret H locs _ ls rfl hP hS dX4_back_44
        · replace hf := of c_5 hf
          refine pVR X hK hA hP hS hl.1 (m_X4_imageCourse E p_this p_script p_told p_draft p_course p_trial p_imageZero p_imageOne p_ledDoughs p_ledOvens p_rowSearch v_keptImages v_ledCount v_traceSum x1 p_imageOne (by simp [f_X4_imageCourse, c_5])) kRX4_214 [0] rfl rfl rfl rfl ⟨⟨(Nat.le_of_ble_eq_true rfl), (Nat.le_of_ble_eq_true rfl)⟩, Nat.zero_le _, Nat.zero_le _⟩ rfl rfl (Nat.le_of_ble_eq_true rfl) dX4_back_31 (fun H locs hP hS => ?_)
          obtain ⟨u_8, hu_8, hf⟩ := ob hf
          refine mVv X hK hA hP hD hS hl.1 (m_X0_copyAll (l := l) E p_course p_course_rows p_imageOne p_imageOne_rows v_course_knownSteps v_imageOne_knownSteps f_course_rows f_imageOne_rows  u_8 hu_8) kRX4_218 [1, 5, 3, 6] rfl rfl (by simp only [w_X0_copyAll, List.map]) rfl rfl rfl ⟨⟨(Nat.le_of_ble_eq_true rfl), (Nat.le_of_ble_eq_true rfl)⟩, Nat.zero_le _, Nat.zero_le _⟩ rfl rfl (Nat.le_of_ble_eq_true rfl) dX4_back_34 (fun H locs hP hD hS => ?_)
          have hP : va_P E.1 classes (w_X4_back E p_this p_script p_told p_draft p_course p_trial p_imageZero p_imageOne p_ledDoughs p_ledOvens p_rowSearch p_course_rows p_imageZero_rows p_imageOne_rows v_keptImages v_ledCount v_traceSum u_8.1 v_imageZero_knownSteps v_imageOne_knownSteps u_8.2 f_imageZero_rows f_imageOne_rows) H := hP
          have hD : va_D A (w_X4_back E p_this p_script p_told p_draft p_course p_trial p_imageZero p_imageOne p_ledDoughs p_ledOvens p_rowSearch p_course_rows p_imageZero_rows p_imageOne_rows v_keptImages v_ledCount v_traceSum u_8.1 v_imageZero_knownSteps v_imageOne_knownSteps u_8.2 f_imageZero_rows f_imageOne_rows) := hD
          refine lv_aload_n hx hb dX4_back_37 rfl (lv_at hl 0 rfl) ?_
          refine gf_RX4_29 X hK hP 0 rfl rfl dX4_back_38 ?_
          obtain ⟨u_9, hu_9, hf⟩ := ob hf
          refine pV X hK hA hP hS hl.1 (m_X0_minute (l := l) E p_course p_course_rows u_8.1 u_8.2  u_9 hu_9) kRX4_137 [1, 3] rfl rfl rfl rfl ⟨⟨(Nat.le_of_ble_eq_true rfl), (Nat.le_of_ble_eq_true rfl)⟩, Nat.zero_le _, Nat.zero_le _⟩ rfl rfl (Nat.le_of_ble_eq_true rfl) dX4_back_41 (fun H locs hP hS => ?_)
          obtain rfl := Option.some.inj hf
          exact hret H locs _ ls rfl hP hS dX4_back_44
      · replace hf := ot c_3 hf
        refine lv_bipush (v := (-2 : Int32)) hx hb dX4_back_22 (by decide) ?_
        obtain rfl := Option.some.inj hf
        exact hret H locs _ ls rfl hP hS dX4_back_24
    · replace hf := of c_2 hf
      refine lv_iconst (v := (-1 : Int32)) hx hb dX4_back_9 (by decide) ?_
      obtain rfl := Option.some.inj hf
      exact hret H locs _ ls rfl hP hS dX4_back_10

abbrev w_X4_count (E : Ev) (p_this : Nat) (p_script : Nat) (p_told : Nat) (p_draft : Nat) (p_course : Nat) (p_trial : Nat) (p_imageZero : Nat) (p_imageOne : Nat) (p_ledDoughs : Nat) (p_ledOvens : Nat) (p_rowSearch : Nat) (p_script_bytes : Nat) (p_course_rows : Nat) (p_told_ovenNumbers : Nat) (p_told_doughNumbers : Nat) (v_keptImages : Int32) (v_ledCount : Int32) (v_traceSum : Int64) (v_script_byteCount : Int32) (v_script_place : Int32) (v_script_token : Int32) (v_script_tokenStart : Int32) (v_script_tokenValue : Int32) (v_course_knownSteps : Int32) (v_told_ovenCount : Int32) (v_told_doughCount : Int32) : va_W := [(p_this, .inr (4, [.ref p_script, .ref p_told, .ref p_draft, .ref p_course, .ref p_trial, .ref p_imageZero, .ref p_imageOne, .int v_keptImages, .ref p_ledDoughs, .ref p_ledOvens, .int v_ledCount, .ref p_rowSearch, .long v_traceSum])), (p_script, .inr (2, [.ref p_script_bytes, .int v_script_byteCount, .int v_script_place, .int v_script_token, .int v_script_tokenStart, .int v_script_tokenValue])), (p_course, .inr (0, [.ref p_course_rows, .int v_course_knownSteps])), (p_told, .inr (3, [.ref p_told_ovenNumbers, .ref p_told_doughNumbers, .int v_told_ovenCount, .int v_told_doughCount]))]
set_option maxHeartbeats 4000000 in
set_option maxRecDepth 100000 in
theorem m_X4_count {l : Launch} (E : Ev) (p_this : Nat) (p_script : Nat) (p_told : Nat) (p_draft : Nat) (p_course : Nat) (p_trial : Nat) (p_imageZero : Nat) (p_imageOne : Nat) (p_ledDoughs : Nat) (p_ledOvens : Nat) (p_rowSearch : Nat) (p_script_bytes : Nat) (p_course_rows : Nat) (p_told_ovenNumbers : Nat) (p_told_doughNumbers : Nat) (v_keptImages : Int32) (v_ledCount : Int32) (v_traceSum : Int64) (v_script_byteCount : Int32) (v_script_place : Int32) (v_script_token : Int32) (v_script_tokenStart : Int32) (v_script_tokenValue : Int32) (v_course_knownSteps : Int32) (v_told_ovenCount : Int32) (v_told_doughCount : Int32) (x1 : Int32) (res : Int32) (hf : f_X4_count  v_ledCount v_script_byteCount v_course_knownSteps v_told_ovenCount v_told_doughCount x1 = some res) : PureI l E 2 yX4_count cX4_count 2 .int [.ref p_this, .int x1] (w_X4_count E p_this p_script p_told p_draft p_course p_trial p_imageZero p_imageOne p_ledDoughs p_ledOvens p_rowSearch p_script_bytes p_course_rows p_told_ovenNumbers p_told_doughNumbers v_keptImages v_ledCount v_traceSum v_script_byteCount v_script_place v_script_token v_script_tokenStart v_script_tokenValue v_course_knownSteps v_told_ovenCount v_told_doughCount) res := by
  refine PureI.of (by decide) (Nat.le_of_ble_eq_true rfl) ?_
  intro p e s m args below meth c Q A X hK hA hret H locs ls hl hP hS
  obtain ⟨hx, hb, hml, hown, hts, hrt, hlk⟩ := id X
  have hl : lv_has ls 2 [(0, .ref p_this), (1, .int x1)] := hl
  unfold f_X4_count at hf
  refine lv_iload_n hx hb dX4_count_0 rfl (lv_at hl 1 rfl) ?_
  by_cases c_1 : x1 = 0
  · replace hf := ot c_1 hf
    refine lv_tableIn (off := 35) (tgt := 36) hx hb dX4_count_1 (by rw [c_1]; decide) (by rw [c_1]; decide) (by rw [c_1]; rfl) (by decide) ?_
    refine lv_aload_n hx hb dX4_count_36 rfl (lv_at hl 0 rfl) ?_
    refine gf_RX4_19 X hK hP 0 rfl rfl dX4_count_37 ?_
    obtain ⟨u_2, hu_2, hf⟩ := ob hf
    refine pV X hK hA hP hS hl.1 (m_X3_ovens (l := l) E p_told p_told_ovenNumbers p_told_doughNumbers v_told_ovenCount v_told_doughCount  u_2 hu_2) kRX4_193 [3] rfl rfl rfl rfl ⟨⟨(Nat.le_of_ble_eq_true rfl), (Nat.le_of_ble_eq_true rfl)⟩, Nat.zero_le _, Nat.zero_le _⟩ rfl rfl (Nat.le_of_ble_eq_true rfl) dX4_count_40 (fun H locs hP hS => ?_)
    obtain rfl := Option.some.inj hf
    exact hret H locs _ ls rfl hP hS dX4_count_43
  · replace hf := of c_1 hf
    by_cases c_3 : x1 = 1
    · replace hf := ot c_3 hf
      refine lv_tableIn (off := 43) (tgt := 44) hx hb dX4_count_1 (by rw [c_3]; decide) (by rw [c_3]; decide) (by rw [c_3]; rfl) (by decide) ?_
      refine lv_aload_n hx hb dX4_count_44 rfl (lv_at hl 0 rfl) ?_
      refine gf_RX4_19 X hK hP 0 rfl rfl dX4_count_45 ?_
      obtain ⟨u_4, hu_4, hf⟩ := ob hf
      refine pV X hK hA hP hS hl.1 (m_X3_doughs (l := l) E p_told p_told_ovenNumbers p_told_doughNumbers v_told_ovenCount v_told_doughCount  u_4 hu_4) kRX4_165 [3] rfl rfl rfl rfl ⟨⟨(Nat.le_of_ble_eq_true rfl), (Nat.le_of_ble_eq_true rfl)⟩, Nat.zero_le _, Nat.zero_le _⟩ rfl rfl (Nat.le_of_ble_eq_true rfl) dX4_count_48 (fun H locs hP hS => ?_)
      obtain rfl := Option.some.inj hf
      exact hret H locs _ ls rfl hP hS dX4_count_51
    · replace hf := of c_3 hf
      by_cases c_5 : x1 = 2
      · replace hf := ot c_5 hf
        refine lv_tableIn (off := 51) (tgt := 52) hx hb dX4_count_1 (by rw [c_5]; decide) (by rw [c_5]; decide) (by rw [c_5]; rfl) (by decide) ?_
        refine lv_aload_n hx hb dX4_count_52 rfl (lv_at hl 0 rfl) ?_
        refine gf_RX4_78 X hK hP 0 rfl rfl dX4_count_53 ?_
        obtain rfl := Option.some.inj hf
        exact hret H locs _ ls rfl hP hS dX4_count_56
      · replace hf := of c_5 hf
        by_cases c_6 : x1 = 3
        · replace hf := ot c_6 hf
          refine lv_tableIn (off := 56) (tgt := 57) hx hb dX4_count_1 (by rw [c_6]; decide) (by rw [c_6]; decide) (by rw [c_6]; rfl) (by decide) ?_
          refine lv_aload_n hx hb dX4_count_57 rfl (lv_at hl 0 rfl) ?_
          refine gf_RX4_29 X hK hP 0 rfl rfl dX4_count_58 ?_
          obtain ⟨u_7, hu_7, hf⟩ := ob hf
          refine pV X hK hA hP hS hl.1 (m_X0_known (l := l) E p_course p_course_rows v_course_knownSteps  u_7 hu_7) kRX4_155 [2] rfl rfl rfl rfl ⟨⟨(Nat.le_of_ble_eq_true rfl), (Nat.le_of_ble_eq_true rfl)⟩, Nat.zero_le _, Nat.zero_le _⟩ rfl rfl (Nat.le_of_ble_eq_true rfl) dX4_count_61 (fun H locs hP hS => ?_)
          obtain rfl := Option.some.inj hf
          exact hret H locs _ ls rfl hP hS dX4_count_64
        · replace hf := of c_6 hf
          by_cases c_8 : x1 = 4
          · replace hf := ot c_8 hf
            refine lv_tableIn (off := 64) (tgt := 65) hx hb dX4_count_1 (by rw [c_8]; decide) (by rw [c_8]; decide) (by rw [c_8]; rfl) (by decide) ?_
            refine lv_aload_n hx hb dX4_count_65 rfl (lv_at hl 0 rfl) ?_
            refine gf_RX4_12 X hK hP 0 rfl rfl dX4_count_66 ?_
            obtain ⟨u_9, hu_9, hf⟩ := ob hf
            refine pV X hK hA hP hS hl.1 (m_X2_length (l := l) E p_script p_script_bytes v_script_byteCount v_script_place v_script_token v_script_tokenStart v_script_tokenValue  u_9 hu_9) kRX4_60 [1] rfl rfl rfl rfl ⟨⟨(Nat.le_of_ble_eq_true rfl), (Nat.le_of_ble_eq_true rfl)⟩, Nat.zero_le _, Nat.zero_le _⟩ rfl rfl (Nat.le_of_ble_eq_true rfl) dX4_count_69 (fun H locs hP hS => ?_)
            obtain rfl := Option.some.inj hf
            exact hret H locs _ ls rfl hP hS dX4_count_72
          · replace hf := of c_8 hf
            refine lv_tableOut (tgt := 73) hx hb dX4_count_1 (by
                have e_1 := lv_neT c_1 (show (0 : Int32).toInt = 0 by decide)
                have e_3 := lv_neT c_3 (show (1 : Int32).toInt = 1 by decide)
                have e_5 := lv_neT c_5 (show (2 : Int32).toInt = 2 by decide)
                have e_6 := lv_neT c_6 (show (3 : Int32).toInt = 3 by decide)
                have e_8 := lv_neT c_8 (show (4 : Int32).toInt = 4 by decide)
                omega) (by decide) ?_
            refine lv_iconst (v := (-1 : Int32)) hx hb dX4_count_73 (by decide) ?_
            obtain rfl := Option.some.inj hf
            exact hret H locs _ ls rfl hP hS dX4_count_74

abbrev w_X4_trace (E : Ev) (p_this : Nat) (p_script : Nat) (p_told : Nat) (p_draft : Nat) (p_course : Nat) (p_trial : Nat) (p_imageZero : Nat) (p_imageOne : Nat) (p_ledDoughs : Nat) (p_ledOvens : Nat) (p_rowSearch : Nat) (v_keptImages : Int32) (v_ledCount : Int32) (v_traceSum : Int64) : va_W := [(p_this, .inr (4, [.ref p_script, .ref p_told, .ref p_draft, .ref p_course, .ref p_trial, .ref p_imageZero, .ref p_imageOne, .int v_keptImages, .ref p_ledDoughs, .ref p_ledOvens, .int v_ledCount, .ref p_rowSearch, .long v_traceSum]))]
set_option maxHeartbeats 4000000 in
set_option maxRecDepth 100000 in
theorem m_X4_trace {l : Launch} (E : Ev) (p_this : Nat) (p_script : Nat) (p_told : Nat) (p_draft : Nat) (p_course : Nat) (p_trial : Nat) (p_imageZero : Nat) (p_imageOne : Nat) (p_ledDoughs : Nat) (p_ledOvens : Nat) (p_rowSearch : Nat) (v_keptImages : Int32) (v_ledCount : Int32) (v_traceSum : Int64)  (res : Int64) (hf : f_X4_trace  v_traceSum  = some res) : PureL l E 1 yX4_trace cX4_trace 1 [.ref p_this] (w_X4_trace E p_this p_script p_told p_draft p_course p_trial p_imageZero p_imageOne p_ledDoughs p_ledOvens p_rowSearch v_keptImages v_ledCount v_traceSum) res := by
  refine PureL.of (by decide) (Nat.le_of_ble_eq_true rfl) ?_
  intro p e s m args below meth c Q A X hK hA hret H locs ls hl hP hS
  obtain ⟨hx, hb, hml, hown, hts, hrt, hlk⟩ := id X
  have hl : lv_has ls 1 [(0, .ref p_this)] := hl
  unfold f_X4_trace at hf
  refine lv_aload_n hx hb dX4_trace_0 rfl (lv_at hl 0 rfl) ?_
  refine gf_RX4_221 X hK hP 0 rfl rfl dX4_trace_1 ?_
  obtain rfl := Option.some.inj hf
  exact hret H locs _ ls hP hS dX4_trace_4

