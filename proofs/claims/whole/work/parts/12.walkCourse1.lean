abbrev w_X0_begin (E : Ev) (p_this : Nat) (p_rows : Nat) (v_knownSteps : Int32) (f_rows : Nat → Int32) : va_W := [(p_this, .inr (0, [.ref p_rows, .int v_knownSteps])), (p_rows, .inl (E.2.1, 154, .inl f_rows))]
set_option maxHeartbeats 4000000 in
set_option maxRecDepth 100000 in
theorem b_X0_begin_21 {p : Program} {l : Launch} {e : Env} {s : State} {m : MethodId} {args : Array Value} {below : List Frame} {meth : Method} {c : Code} {Q : State → Prop} {A : Nat → Prop} (E : Ev) (p_this : Nat) (p_rows : Nat) (res : Int32 × (Nat → Int32)) (X : Cx p s m args meth c cX0_begin 2 RX0 none) (hK : KK E A s s.heap) (hA : ∀ q, s.heap.size ≤ q → A q) (hret : RetV p l e (RM 1) s m args below meth c Q E A cX0_begin (w_X0_begin E p_this p_rows res.1 res.2))  : ∀ (n : Nat) (v_knownSteps : Int32) (f_rows : Nat → Int32) (x1 : Int32), f_X0_begin_21    n v_knownSteps f_rows x1 = some res → ∀ (H : Heap) (locs : List Loc) (ls : Array Slot), lv_has ls 2 [(0, .ref p_this), (1, .int x1)] → va_P E.1 classes (w_X0_begin E p_this p_rows v_knownSteps f_rows) H → va_D A (w_X0_begin E p_this p_rows v_knownSteps f_rows) → va_S A s.heap H locs → W p l e (RM 1) s m args below meth c H locs 0 0 Q (F0 m 21 ls []) := by
  obtain ⟨hx, hb, hml, hown, hts, hrt, hlk⟩ := id X
  intro n
  induction n with
  | zero => intro v_knownSteps f_rows x1 hf; exact absurd hf (by simp [f_X0_begin_21])
  | succ n ih =>
    intro v_knownSteps f_rows x1 hf H locs ls hl hP hD hS
    unfold f_X0_begin_21 at hf
    refine lv_iload_n hx hb dX0_begin_21 rfl (lv_at hl 1 rfl) ?_
    refine lv_bipush (v := (6 : Int32)) hx hb dX0_begin_22 (by decide) ?_
    refine lv_icmp_ge (tgt := 53) hx hb dX0_begin_24 (by decide) (fun c_1 => ?_) (fun c_1 => ?_)
    · replace hf := ot c_1 hf
      obtain rfl := Option.some.inj hf
      exact hret H locs _ ls hP hS dX0_begin_53
    · replace hf := of c_1 hf
      refine lv_aload_n hx hb dX0_begin_27 rfl (lv_at hl 0 rfl) ?_
      refine gf_RX0_11 X hK hP 0 rfl rfl dX0_begin_28 ?_
      refine lv_iconst (v := (2 : Int32)) hx hb dX0_begin_31 (by decide) ?_
      refine lv_iload_n hx hb dX0_begin_32 rfl (lv_at hl 1 rfl) ?_
      refine lv_iadd hx hb dX0_begin_33 ?_
      refine lv_bipush (v := (-9 : Int32)) hx hb dX0_begin_34 (by decide) ?_
      obtain ⟨g_2, hf⟩ := og hf
      refine iast X hK hP hD hS 1 rfl _ rfl g_2 dX0_begin_36 (fun H locs hP hD hS => ?_)
      have hP : va_P E.1 classes (w_X0_begin E p_this p_rows v_knownSteps (upd f_rows ((2 : Int32) + x1).toNatClampNeg (-9 : Int32))) H := hP
      have hD : va_D A (w_X0_begin E p_this p_rows v_knownSteps (upd f_rows ((2 : Int32) + x1).toNatClampNeg (-9 : Int32))) := hD
      refine lv_aload_n hx hb dX0_begin_37 rfl (lv_at hl 0 rfl) ?_
      refine gf_RX0_11 X hK hP 0 rfl rfl dX0_begin_38 ?_
      refine lv_bipush (v := (8 : Int32)) hx hb dX0_begin_41 (by decide) ?_
      refine lv_iload_n hx hb dX0_begin_43 rfl (lv_at hl 1 rfl) ?_
      refine lv_iadd hx hb dX0_begin_44 ?_
      refine lv_iconst (v := (0 : Int32)) hx hb dX0_begin_45 (by decide) ?_
      obtain ⟨g_3, hf⟩ := og hf
      refine iast X hK hP hD hS 1 rfl _ rfl g_3 dX0_begin_46 (fun H locs hP hD hS => ?_)
      have hP : va_P E.1 classes (w_X0_begin E p_this p_rows v_knownSteps (upd (upd f_rows ((2 : Int32) + x1).toNatClampNeg (-9 : Int32)) ((8 : Int32) + x1).toNatClampNeg (0 : Int32))) H := hP
      have hD : va_D A (w_X0_begin E p_this p_rows v_knownSteps (upd (upd f_rows ((2 : Int32) + x1).toNatClampNeg (-9 : Int32)) ((8 : Int32) + x1).toNatClampNeg (0 : Int32))) := hD
      refine lv_iinc (v := (x1 + (1 : Int32))) (lv' := [(1, .int (x1 + (1 : Int32))), (0, .ref p_this)]) hx hb dX0_begin_47 hl (k := 1) rfl rfl (by decide) rfl (fun ls hl => ?_)
      refine lv_goto (tgt := 21) hx hb dX0_begin_50 (by decide) ?_
      exact ih v_knownSteps (upd (upd f_rows ((2 : Int32) + x1).toNatClampNeg (-9 : Int32)) ((8 : Int32) + x1).toNatClampNeg (0 : Int32)) (x1 + (1 : Int32)) hf H locs ls (lv_sub hl [1, 0] rfl) hP hD hS

set_option maxHeartbeats 4000000 in
set_option maxRecDepth 100000 in
theorem m_X0_begin {l : Launch} (E : Ev) (p_this : Nat) (p_rows : Nat) (v_knownSteps : Int32) (f_rows : Nat → Int32)  (res : Int32 × (Nat → Int32)) (hf : f_X0_begin  v_knownSteps f_rows  = some res) : MutV l E 1 yX0_begin cX0_begin 2 [.ref p_this] (w_X0_begin E p_this p_rows v_knownSteps f_rows) (w_X0_begin E p_this p_rows res.1 res.2) := by
  refine MutV.of (by decide) (Nat.le_of_ble_eq_true rfl) ?_
  intro p e s m args below meth c Q A X hK hA hret H locs ls hl hP hD hS
  obtain ⟨hx, hb, hml, hown, hts, hrt, hlk⟩ := id X
  have hl : lv_has ls 2 [(0, .ref p_this)] := hl
  unfold f_X0_begin at hf
  refine lv_aload_n hx hb dX0_begin_0 rfl (lv_at hl 0 rfl) ?_
  refine lv_iconst (v := (0 : Int32)) hx hb dX0_begin_1 (by decide) ?_
  refine pf_RX0_18 X hK hP hD hS 0 rfl rfl dX0_begin_2 (fun H locs hP hD hS => ?_)
  have hP : va_P E.1 classes (w_X0_begin E p_this p_rows (0 : Int32) f_rows) H := hP
  have hD : va_D A (w_X0_begin E p_this p_rows (0 : Int32) f_rows) := hD
  refine lv_aload_n hx hb dX0_begin_5 rfl (lv_at hl 0 rfl) ?_
  refine gf_RX0_11 X hK hP 0 rfl rfl dX0_begin_6 ?_
  refine lv_iconst (v := (0 : Int32)) hx hb dX0_begin_9 (by decide) ?_
  refine lv_iconst (v := (0 : Int32)) hx hb dX0_begin_10 (by decide) ?_
  refine iast X hK hP hD hS 1 rfl 0 (by decide) (by decide) dX0_begin_11 (fun H locs hP hD hS => ?_)
  have hP : va_P E.1 classes (w_X0_begin E p_this p_rows (0 : Int32) (upd f_rows 0 (0 : Int32))) H := hP
  have hD : va_D A (w_X0_begin E p_this p_rows (0 : Int32) (upd f_rows 0 (0 : Int32))) := hD
  refine lv_aload_n hx hb dX0_begin_12 rfl (lv_at hl 0 rfl) ?_
  refine gf_RX0_11 X hK hP 0 rfl rfl dX0_begin_13 ?_
  refine lv_iconst (v := (1 : Int32)) hx hb dX0_begin_16 (by decide) ?_
  refine lv_iconst (v := (0 : Int32)) hx hb dX0_begin_17 (by decide) ?_
  refine iast X hK hP hD hS 1 rfl 1 (by decide) (by decide) dX0_begin_18 (fun H locs hP hD hS => ?_)
  have hP : va_P E.1 classes (w_X0_begin E p_this p_rows (0 : Int32) (upd (upd f_rows 0 (0 : Int32)) 1 (0 : Int32))) H := hP
  have hD : va_D A (w_X0_begin E p_this p_rows (0 : Int32) (upd (upd f_rows 0 (0 : Int32)) 1 (0 : Int32))) := hD
  refine lv_iconst (v := (0 : Int32)) hx hb dX0_begin_19 (by decide) ?_
  refine lv_istore_n (lv' := [(1, .int (0 : Int32)), (0, .ref p_this)]) hx hb dX0_begin_20 rfl hl (by decide) rfl (fun ls hl => ?_)
  exact b_X0_begin_21 E p_this p_rows  res X hK hA hret   FU (0 : Int32) (upd (upd f_rows 0 (0 : Int32)) 1 (0 : Int32)) (0 : Int32) hf H locs ls (lv_sub hl [1, 0] rfl) hP hD hS

abbrev w_X0_copyAll (E : Ev) (p_this : Nat) (p_rows : Nat) (p_a1 : Nat) (p_a1_rows : Nat) (v_knownSteps : Int32) (v_a1_knownSteps : Int32) (f_rows : Nat → Int32) (f_a1_rows : Nat → Int32) : va_W := [(p_this, .inr (0, [.ref p_rows, .int v_knownSteps])), (p_a1, .inr (0, [.ref p_a1_rows, .int v_a1_knownSteps])), (p_rows, .inl (E.2.1, 154, .inl f_rows)), (p_a1_rows, .inl (E.2.1, 154, .inl f_a1_rows))]
set_option maxHeartbeats 4000000 in
set_option maxRecDepth 100000 in
theorem m_X0_copyAll {l : Launch} (E : Ev) (p_this : Nat) (p_rows : Nat) (p_a1 : Nat) (p_a1_rows : Nat) (v_knownSteps : Int32) (v_a1_knownSteps : Int32) (f_rows : Nat → Int32) (f_a1_rows : Nat → Int32)  (res : Int32 × (Nat → Int32)) (hf : f_X0_copyAll  v_a1_knownSteps f_a1_rows v_knownSteps f_rows  = some res) : MutV l E 1 yX0_copyAll cX0_copyAll 2 [.ref p_this, .ref p_a1] (w_X0_copyAll E p_this p_rows p_a1 p_a1_rows v_knownSteps v_a1_knownSteps f_rows f_a1_rows) (w_X0_copyAll E p_this p_rows p_a1 p_a1_rows res.1 v_a1_knownSteps res.2 f_a1_rows) := by
  refine MutV.of (by decide) (Nat.le_of_ble_eq_true rfl) ?_
  intro p e s m args below meth c Q A X hK hA hret H locs ls hl hP hD hS
  obtain ⟨hx, hb, hml, hown, hts, hrt, hlk⟩ := id X
  have hl : lv_has ls 2 [(0, .ref p_this), (1, .ref p_a1)] := hl
  unfold f_X0_copyAll at hf
  refine lv_aload_n hx hb dX0_copyAll_0 rfl (lv_at hl 1 rfl) ?_
  refine gf_RX0_11 X hK hP 1 rfl rfl dX0_copyAll_1 ?_
  refine lv_iconst (v := (0 : Int32)) hx hb dX0_copyAll_4 (by decide) ?_
  refine lv_aload_n hx hb dX0_copyAll_5 rfl (lv_at hl 0 rfl) ?_
  refine gf_RX0_11 X hK hP 0 rfl rfl dX0_copyAll_6 ?_
  refine lv_iconst (v := (0 : Int32)) hx hb dX0_copyAll_9 (by decide) ?_
  refine lv_aload_n hx hb dX0_copyAll_10 rfl (lv_at hl 0 rfl) ?_
  refine gf_RX0_11 X hK hP 0 rfl rfl dX0_copyAll_11 ?_
  refine va_alen (v := (154 : Int32)) hx hb hK.1 hP 2 0 rfl rfl rfl dX0_copyAll_14 ?_
  obtain ⟨g_1, hf⟩ := og hf
  refine va_copyi hx hb (hml.trans hl.1.symm) hown (hts _ q398) (hts _ q400) (hts _ q399) (hts _ q56) hK.1 hP hD hS 3 2 0 0 rfl rfl rfl rfl rfl g_1.1 g_1.2.1 g_1.2.2.1 g_1.2.2.2.1 g_1.2.2.2.2 (fun _ _ => rfl) (Nat.le_of_ble_eq_true rfl) (Nat.le_of_ble_eq_true rfl) dX0_copyAll_15 (fun H locs hP hD hS => ?_)
  have hP : va_P E.1 classes (w_X0_copyAll E p_this p_rows p_a1 p_a1_rows v_knownSteps v_a1_knownSteps (va_cpy f_a1_rows f_rows (0 : Int32).toNatClampNeg (0 : Int32).toNatClampNeg (154 : Int32).toNatClampNeg) f_a1_rows) H := hP
  have hD : va_D A (w_X0_copyAll E p_this p_rows p_a1 p_a1_rows v_knownSteps v_a1_knownSteps (va_cpy f_a1_rows f_rows (0 : Int32).toNatClampNeg (0 : Int32).toNatClampNeg (154 : Int32).toNatClampNeg) f_a1_rows) := hD
  refine lv_aload_n hx hb dX0_copyAll_18 rfl (lv_at hl 0 rfl) ?_
  refine lv_aload_n hx hb dX0_copyAll_19 rfl (lv_at hl 1 rfl) ?_
  refine gf_RX0_18 X hK hP 1 rfl rfl dX0_copyAll_20 ?_
  refine pf_RX0_18 X hK hP hD hS 0 rfl rfl dX0_copyAll_23 (fun H locs hP hD hS => ?_)
  have hP : va_P E.1 classes (w_X0_copyAll E p_this p_rows p_a1 p_a1_rows v_a1_knownSteps v_a1_knownSteps (va_cpy f_a1_rows f_rows (0 : Int32).toNatClampNeg (0 : Int32).toNatClampNeg (154 : Int32).toNatClampNeg) f_a1_rows) H := hP
  have hD : va_D A (w_X0_copyAll E p_this p_rows p_a1 p_a1_rows v_a1_knownSteps v_a1_knownSteps (va_cpy f_a1_rows f_rows (0 : Int32).toNatClampNeg (0 : Int32).toNatClampNeg (154 : Int32).toNatClampNeg) f_a1_rows) := hD
  obtain rfl := Option.some.inj hf
  exact hret H locs _ ls hP hS dX0_copyAll_26

abbrev w_X0_base (E : Ev) (p_this : Nat) (p_rows : Nat) (v_knownSteps : Int32) : va_W := [(p_this, .inr (0, [.ref p_rows, .int v_knownSteps]))]
set_option maxHeartbeats 4000000 in
set_option maxRecDepth 100000 in
theorem m_X0_base {l : Launch} (E : Ev) (p_this : Nat) (p_rows : Nat) (v_knownSteps : Int32)  (res : Int32) (hf : f_X0_base  v_knownSteps  = some res) : PureI l E 1 yX0_base cX0_base 1 .int [.ref p_this] (w_X0_base E p_this p_rows v_knownSteps) res := by
  refine PureI.of (by decide) (Nat.le_of_ble_eq_true rfl) ?_
  intro p e s m args below meth c Q A X hK hA hret H locs ls hl hP hS
  obtain ⟨hx, hb, hml, hown, hts, hrt, hlk⟩ := id X
  have hl : lv_has ls 1 [(0, .ref p_this)] := hl
  unfold f_X0_base at hf
  refine lv_aload_n hx hb dX0_base_0 rfl (lv_at hl 0 rfl) ?_
  refine gf_RX0_18 X hK hP 0 rfl rfl dX0_base_1 ?_
  refine lv_bipush (v := (14 : Int32)) hx hb dX0_base_4 (by decide) ?_
  refine lv_imul hx hb dX0_base_6 ?_
  obtain rfl := Option.some.inj hf
  exact hret H locs _ ls rfl hP hS dX0_base_7

abbrev w_X0_copyNow (E : Ev) (p_this : Nat) (p_rows : Nat) (p_a1 : Nat) (p_a1_rows : Nat) (v_knownSteps : Int32) (v_a1_knownSteps : Int32) (f_a1_rows : Nat → Int32) (f_rows : Nat → Int32) : va_W := [(p_this, .inr (0, [.ref p_rows, .int v_knownSteps])), (p_a1, .inr (0, [.ref p_a1_rows, .int v_a1_knownSteps])), (p_a1_rows, .inl (E.2.1, 154, .inl f_a1_rows)), (p_rows, .inl (E.2.1, 154, .inl f_rows))]
set_option maxHeartbeats 4000000 in
set_option maxRecDepth 100000 in
theorem m_X0_copyNow {l : Launch} (E : Ev) (p_this : Nat) (p_rows : Nat) (p_a1 : Nat) (p_a1_rows : Nat) (v_knownSteps : Int32) (v_a1_knownSteps : Int32) (f_a1_rows : Nat → Int32) (f_rows : Nat → Int32)  (res : Int32 × (Nat → Int32)) (hf : f_X0_copyNow  v_a1_knownSteps f_a1_rows v_knownSteps f_rows  = some res) : MutV l E 2 yX0_copyNow cX0_copyNow 2 [.ref p_this, .ref p_a1] (w_X0_copyNow E p_this p_rows p_a1 p_a1_rows v_knownSteps v_a1_knownSteps f_a1_rows f_rows) (w_X0_copyNow E p_this p_rows p_a1 p_a1_rows res.1 v_a1_knownSteps f_a1_rows res.2) := by
  refine MutV.of (by decide) (Nat.le_of_ble_eq_true rfl) ?_
  intro p e s m args below meth c Q A X hK hA hret H locs ls hl hP hD hS
  obtain ⟨hx, hb, hml, hown, hts, hrt, hlk⟩ := id X
  have hl : lv_has ls 2 [(0, .ref p_this), (1, .ref p_a1)] := hl
  unfold f_X0_copyNow at hf
  refine lv_aload_n hx hb dX0_copyNow_0 rfl (lv_at hl 1 rfl) ?_
  refine gf_RX0_11 X hK hP 1 rfl rfl dX0_copyNow_1 ?_
  refine lv_aload_n hx hb dX0_copyNow_4 rfl (lv_at hl 1 rfl) ?_
  obtain ⟨u_1, hu_1, hf⟩ := ob hf
  refine pV X hK hA hP hS hl.1 (m_X0_base (l := l) E p_a1 p_a1_rows v_a1_knownSteps  u_1 hu_1) kRX0_28 [1] rfl rfl rfl rfl ⟨⟨(Nat.le_of_ble_eq_true rfl), (Nat.le_of_ble_eq_true rfl)⟩, Nat.zero_le _, Nat.zero_le _⟩ rfl rfl (Nat.le_of_ble_eq_true rfl) dX0_copyNow_5 (fun H locs hP hS => ?_)
  refine lv_aload_n hx hb dX0_copyNow_8 rfl (lv_at hl 0 rfl) ?_
  refine gf_RX0_11 X hK hP 0 rfl rfl dX0_copyNow_9 ?_
  refine lv_iconst (v := (0 : Int32)) hx hb dX0_copyNow_12 (by decide) ?_
  refine lv_bipush (v := (14 : Int32)) hx hb dX0_copyNow_13 (by decide) ?_
  obtain ⟨g_2, hf⟩ := og hf
  refine va_copyi hx hb (hml.trans hl.1.symm) hown (hts _ q398) (hts _ q400) (hts _ q399) (hts _ q56) hK.1 hP hD hS 2 3 0 0 rfl rfl rfl rfl rfl g_2.1 g_2.2.1 g_2.2.2.1 g_2.2.2.2.1 g_2.2.2.2.2 (fun _ _ => rfl) (Nat.le_of_ble_eq_true rfl) (Nat.le_of_ble_eq_true rfl) dX0_copyNow_15 (fun H locs hP hD hS => ?_)
  have hP : va_P E.1 classes (w_X0_copyNow E p_this p_rows p_a1 p_a1_rows v_knownSteps v_a1_knownSteps f_a1_rows (va_cpy f_a1_rows f_rows u_1.toNatClampNeg (0 : Int32).toNatClampNeg (14 : Int32).toNatClampNeg)) H := hP
  have hD : va_D A (w_X0_copyNow E p_this p_rows p_a1 p_a1_rows v_knownSteps v_a1_knownSteps f_a1_rows (va_cpy f_a1_rows f_rows u_1.toNatClampNeg (0 : Int32).toNatClampNeg (14 : Int32).toNatClampNeg)) := hD
  refine lv_aload_n hx hb dX0_copyNow_18 rfl (lv_at hl 0 rfl) ?_
  refine lv_iconst (v := (0 : Int32)) hx hb dX0_copyNow_19 (by decide) ?_
  refine pf_RX0_18 X hK hP hD hS 0 rfl rfl dX0_copyNow_20 (fun H locs hP hD hS => ?_)
  have hP : va_P E.1 classes (w_X0_copyNow E p_this p_rows p_a1 p_a1_rows (0 : Int32) v_a1_knownSteps f_a1_rows (va_cpy f_a1_rows f_rows u_1.toNatClampNeg (0 : Int32).toNatClampNeg (14 : Int32).toNatClampNeg)) H := hP
  have hD : va_D A (w_X0_copyNow E p_this p_rows p_a1 p_a1_rows (0 : Int32) v_a1_knownSteps f_a1_rows (va_cpy f_a1_rows f_rows u_1.toNatClampNeg (0 : Int32).toNatClampNeg (14 : Int32).toNatClampNeg)) := hD
  obtain rfl := Option.some.inj hf
  exact hret H locs _ ls hP hS dX0_copyNow_23

abbrev w_X0_remember (E : Ev) (p_this : Nat) (p_rows : Nat) (v_knownSteps : Int32) (f_rows : Nat → Int32) : va_W := [(p_this, .inr (0, [.ref p_rows, .int v_knownSteps])), (p_rows, .inl (E.2.1, 154, .inl f_rows))]
set_option maxHeartbeats 4000000 in
set_option maxRecDepth 100000 in
theorem m_X0_remember {l : Launch} (E : Ev) (p_this : Nat) (p_rows : Nat) (v_knownSteps : Int32) (f_rows : Nat → Int32)  (res : Int32 × (Nat → Int32)) (hf : f_X0_remember  v_knownSteps f_rows  = some res) : MutV l E 2 yX0_remember cX0_remember 1 [.ref p_this] (w_X0_remember E p_this p_rows v_knownSteps f_rows) (w_X0_remember E p_this p_rows res.1 res.2) := by
  refine MutV.of (by decide) (Nat.le_of_ble_eq_true rfl) ?_
  intro p e s m args below meth c Q A X hK hA hret H locs ls hl hP hD hS
  obtain ⟨hx, hb, hml, hown, hts, hrt, hlk⟩ := id X
  have hl : lv_has ls 1 [(0, .ref p_this)] := hl
  unfold f_X0_remember at hf
  refine lv_aload_n hx hb dX0_remember_0 rfl (lv_at hl 0 rfl) ?_
  refine gf_RX0_18 X hK hP 0 rfl rfl dX0_remember_1 ?_
  refine lv_bipush (v := (10 : Int32)) hx hb dX0_remember_4 (by decide) ?_
  refine lv_icmp_ge (tgt := 46) hx hb dX0_remember_6 (by decide) (fun c_1 => ?_) (fun c_1 => ?_)
  · replace hf := ot c_1 hf
    refine lv_aload_n hx hb dX0_remember_46 rfl (lv_at hl 0 rfl) ?_
    refine gf_RX0_11 X hK hP 0 rfl rfl dX0_remember_47 ?_
    refine lv_bipush (v := (14 : Int32)) hx hb dX0_remember_50 (by decide) ?_
    refine lv_aload_n hx hb dX0_remember_52 rfl (lv_at hl 0 rfl) ?_
    refine gf_RX0_11 X hK hP 0 rfl rfl dX0_remember_53 ?_
    refine lv_iconst (v := (0 : Int32)) hx hb dX0_remember_56 (by decide) ?_
    refine lv_sipush (v := (140 : Int32)) hx hb dX0_remember_57 (by decide) ?_
    obtain ⟨g_2, hf⟩ := og hf
    refine va_copyi hx hb (hml.trans hl.1.symm) hown (hts _ q398) (hts _ q400) (hts _ q399) (hts _ q56) hK.1 hP hD hS 1 1 0 0 rfl rfl rfl rfl rfl g_2.1 g_2.2.1 g_2.2.2.1 g_2.2.2.2.1 g_2.2.2.2.2 (fun _ _ => rfl) (Nat.le_of_ble_eq_true rfl) (Nat.le_of_ble_eq_true rfl) dX0_remember_60 (fun H locs hP hD hS => ?_)
    have hP : va_P E.1 classes (w_X0_remember E p_this p_rows v_knownSteps (va_cpy f_rows f_rows (14 : Int32).toNatClampNeg (0 : Int32).toNatClampNeg (140 : Int32).toNatClampNeg)) H := hP
    have hD : va_D A (w_X0_remember E p_this p_rows v_knownSteps (va_cpy f_rows f_rows (14 : Int32).toNatClampNeg (0 : Int32).toNatClampNeg (140 : Int32).toNatClampNeg)) := hD
    obtain rfl := Option.some.inj hf
    exact hret H locs _ ls hP hS dX0_remember_63
  · replace hf := of c_1 hf
    refine lv_aload_n hx hb dX0_remember_9 rfl (lv_at hl 0 rfl) ?_
    refine gf_RX0_11 X hK hP 0 rfl rfl dX0_remember_10 ?_
    refine lv_aload_n hx hb dX0_remember_13 rfl (lv_at hl 0 rfl) ?_
    obtain ⟨u_3, hu_3, hf⟩ := ob hf
    refine pV X hK hA hP hS hl.1 (m_X0_base (l := l) E p_this p_rows v_knownSteps  u_3 hu_3) kRX0_28 [0] rfl rfl rfl rfl ⟨⟨(Nat.le_of_ble_eq_true rfl), (Nat.le_of_ble_eq_true rfl)⟩, Nat.zero_le _, Nat.zero_le _⟩ rfl rfl (Nat.le_of_ble_eq_true rfl) dX0_remember_14 (fun H locs hP hS => ?_)
    refine lv_aload_n hx hb dX0_remember_17 rfl (lv_at hl 0 rfl) ?_
    refine gf_RX0_11 X hK hP 0 rfl rfl dX0_remember_18 ?_
    refine lv_aload_n hx hb dX0_remember_21 rfl (lv_at hl 0 rfl) ?_
    obtain ⟨u_4, hu_4, hf⟩ := ob hf
    refine pV X hK hA hP hS hl.1 (m_X0_base (l := l) E p_this p_rows v_knownSteps  u_4 hu_4) kRX0_28 [0] rfl rfl rfl rfl ⟨⟨(Nat.le_of_ble_eq_true rfl), (Nat.le_of_ble_eq_true rfl)⟩, Nat.zero_le _, Nat.zero_le _⟩ rfl rfl (Nat.le_of_ble_eq_true rfl) dX0_remember_22 (fun H locs hP hS => ?_)
    refine lv_bipush (v := (14 : Int32)) hx hb dX0_remember_25 (by decide) ?_
    refine lv_iadd hx hb dX0_remember_27 ?_
    refine lv_bipush (v := (14 : Int32)) hx hb dX0_remember_28 (by decide) ?_
    obtain ⟨g_5, hf⟩ := og hf
    refine va_copyi hx hb (hml.trans hl.1.symm) hown (hts _ q398) (hts _ q400) (hts _ q399) (hts _ q56) hK.1 hP hD hS 1 1 0 0 rfl rfl rfl rfl rfl g_5.1 g_5.2.1 g_5.2.2.1 g_5.2.2.2.1 g_5.2.2.2.2 (fun _ _ => rfl) (Nat.le_of_ble_eq_true rfl) (Nat.le_of_ble_eq_true rfl) dX0_remember_30 (fun H locs hP hD hS => ?_)
    have hP : va_P E.1 classes (w_X0_remember E p_this p_rows v_knownSteps (va_cpy f_rows f_rows u_3.toNatClampNeg (u_4 + (14 : Int32)).toNatClampNeg (14 : Int32).toNatClampNeg)) H := hP
    have hD : va_D A (w_X0_remember E p_this p_rows v_knownSteps (va_cpy f_rows f_rows u_3.toNatClampNeg (u_4 + (14 : Int32)).toNatClampNeg (14 : Int32).toNatClampNeg)) := hD
    refine lv_aload_n hx hb dX0_remember_33 rfl (lv_at hl 0 rfl) ?_
    refine lv_dup hx hb dX0_remember_34 rfl ?_
    refine gf_RX0_18 X hK hP 0 rfl rfl dX0_remember_35 ?_
    refine lv_iconst (v := (1 : Int32)) hx hb dX0_remember_38 (by decide) ?_
    refine lv_iadd hx hb dX0_remember_39 ?_
    refine pf_RX0_18 X hK hP hD hS 0 rfl rfl dX0_remember_40 (fun H locs hP hD hS => ?_)
    have hP : va_P E.1 classes (w_X0_remember E p_this p_rows (v_knownSteps + (1 : Int32)) (va_cpy f_rows f_rows u_3.toNatClampNeg (u_4 + (14 : Int32)).toNatClampNeg (14 : Int32).toNatClampNeg)) H := hP
    have hD : va_D A (w_X0_remember E p_this p_rows (v_knownSteps + (1 : Int32)) (va_cpy f_rows f_rows u_3.toNatClampNeg (u_4 + (14 : Int32)).toNatClampNeg (14 : Int32).toNatClampNeg)) := hD
    refine lv_goto (tgt := 63) hx hb dX0_remember_43 (by decide) ?_
    obtain rfl := Option.some.inj hf
    exact hret H locs _ ls hP hS dX0_remember_63

abbrev w_X0_takeBack (E : Ev) (p_this : Nat) (p_rows : Nat) (v_knownSteps : Int32) : va_W := [(p_this, .inr (0, [.ref p_rows, .int v_knownSteps]))]
set_option maxHeartbeats 4000000 in
set_option maxRecDepth 100000 in
theorem m_X0_takeBack {l : Launch} (E : Ev) (p_this : Nat) (p_rows : Nat) (v_knownSteps : Int32)  (res : Int32 × Int32) (hf : f_X0_takeBack  v_knownSteps  = some res) : MutI l E 1 yX0_takeBack cX0_takeBack 1 .boolean [.ref p_this] (w_X0_takeBack E p_this p_rows v_knownSteps) (w_X0_takeBack E p_this p_rows res.2) res.1 := by
  refine MutI.of (by decide) (Nat.le_of_ble_eq_true rfl) ?_
  intro p e s m args below meth c Q A X hK hA hret H locs ls hl hP hD hS
  obtain ⟨hx, hb, hml, hown, hts, hrt, hlk⟩ := id X
  have hl : lv_has ls 1 [(0, .ref p_this)] := hl
  unfold f_X0_takeBack at hf
  refine lv_aload_n hx hb dX0_takeBack_0 rfl (lv_at hl 0 rfl) ?_
  refine gf_RX0_18 X hK hP 0 rfl rfl dX0_takeBack_1 ?_
  refine lv_if_gt (tgt := 9) hx hb dX0_takeBack_4 (by decide) (fun c_1 => ?_) (fun c_1 => ?_)
  · replace hf := ot c_1 hf
    refine lv_aload_n hx hb dX0_takeBack_9 rfl (lv_at hl 0 rfl) ?_
    refine lv_dup hx hb dX0_takeBack_10 rfl ?_
    refine gf_RX0_18 X hK hP 0 rfl rfl dX0_takeBack_11 ?_
    refine lv_iconst (v := (1 : Int32)) hx hb dX0_takeBack_14 (by decide) ?_
    refine lv_isub hx hb dX0_takeBack_15 ?_
    refine pf_RX0_18 X hK hP hD hS 0 rfl rfl dX0_takeBack_16 (fun H locs hP hD hS => ?_)
    have hP : va_P E.1 classes (w_X0_takeBack E p_this p_rows (v_knownSteps - (1 : Int32))) H := hP
    have hD : va_D A (w_X0_takeBack E p_this p_rows (v_knownSteps - (1 : Int32))) := hD
    refine lv_iconst (v := (1 : Int32)) hx hb dX0_takeBack_19 (by decide) ?_
    obtain rfl := Option.some.inj hf
    exact hret H locs _ ls nar1 hP hS dX0_takeBack_20
  · replace hf := of c_1 hf
    refine lv_iconst (v := (0 : Int32)) hx hb dX0_takeBack_7 (by decide) ?_
    obtain rfl := Option.some.inj hf
    exact hret H locs _ ls nar0 hP hS dX0_takeBack_8

