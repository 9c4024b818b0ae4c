abbrev w_X5_begins (E : Ev) (p_this : Nat) (p_text : Nat) (p_told : Nat) (p_draft : Nat) (p_s : Nat) (p_images : Nat) (p_kept : Nat) (p_notes : Nat) (p_held : Nat) (p_soonest : Nat) (v_trace : Int64) (v_typed : Int32) (v_noted : Int32) (v_at : Int32) (v_sort : Int32) (v_start : Int32) (v_value : Int32) (v_vanillaIn : Int32) (f_draft : Nat → Int32) (f_told : Nat → Int32) (f_s : Nat → Int32) (f_kept : Nat → Int32) : va_W := [(p_this, .inr (5, [.long v_trace, .ref p_text, .int v_typed, .ref p_told, .ref p_draft, .ref p_s, .ref p_images, .ref p_kept, .ref p_notes, .int v_noted, .int v_at, .int v_sort, .int v_start, .int v_value, .int v_vanillaIn, .ref p_held, .ref p_soonest])), (p_draft, .inl (E.2.1, 43, .inl f_draft)), (p_told, .inl (E.2.1, 43, .inl f_told)), (p_s, .inl (E.2.1, 155, .inl f_s)), (p_kept, .inl (E.2.2.1, 2, .inl f_kept))]
set_option maxHeartbeats 4000000 in
set_option maxRecDepth 100000 in
theorem b_X5_begins_51 {p : Program} {l : Launch} {e : Env} {s : State} {m : MethodId} {args : Array Value} {below : List Frame} {meth : Method} {c : Code} {Q : State → Prop} {A : Nat → Prop} (E : Ev) (p_this : Nat) (p_text : Nat) (p_told : Nat) (p_draft : Nat) (p_s : Nat) (p_images : Nat) (p_kept : Nat) (p_notes : Nat) (p_held : Nat) (p_soonest : Nat) (v_trace : Int64) (v_typed : Int32) (v_at : Int32) (v_sort : Int32) (v_start : Int32) (v_value : Int32) (v_vanillaIn : Int32) (f_draft : Nat → Int32) (res : Int32 × (Nat → Int32) × (Nat → Int32) × (Nat → Int32)) (X : Cx p s m args meth c cX5_begins 2 RX5 none) (hK : KK E A s s.heap) (hA : ∀ q, s.heap.size ≤ q → A q) (hret : RetV p l e (RM 1) s m args below meth c Q E A cX5_begins (w_X5_begins E p_this p_text p_told p_draft p_s p_images p_kept p_notes p_held p_soonest v_trace v_typed res.1 v_at v_sort v_start v_value v_vanillaIn f_draft res.2.1 res.2.2.1 res.2.2.2)) (K28 : Int32 → (Nat → Int32) → (Nat → Int32) → (Nat → Int32) → Int32 → Option (Int32 × (Nat → Int32) × (Nat → Int32) × (Nat → Int32))) (hK28 : ∀ (v_noted : Int32) (f_told : Nat → Int32) (f_s : Nat → Int32) (f_kept : Nat → Int32) (x1 : Int32), K28 v_noted f_told f_s f_kept x1 = some res → ∀ (H : Heap) (locs : List Loc) (ls : Array Slot), lv_has ls 2 [(0, .ref p_this), (1, .int x1)] → va_P E.1 classes (w_X5_begins E p_this p_text p_told p_draft p_s p_images p_kept p_notes p_held p_soonest v_trace v_typed v_noted v_at v_sort v_start v_value v_vanillaIn f_draft f_told f_s f_kept) H → va_D A (w_X5_begins E p_this p_text p_told p_draft p_s p_images p_kept p_notes p_held p_soonest v_trace v_typed v_noted v_at v_sort v_start v_value v_vanillaIn f_draft f_told f_s f_kept) → va_S A s.heap H locs → W p l e (RM 1) s m args below meth c H locs 0 0 Q (F0 m 28 ls [])) (v_noted : Int32) (f_told : Nat → Int32) (f_s : Nat → Int32) (f_kept : Nat → Int32) (x1 : Int32) (k0 : Int32) (k1 : Int32) (hf : f_X5_begins_51 f_draft  K28 v_noted f_told f_s f_kept x1 k0 k1 = some res) : ∀ (H : Heap) (locs : List Loc) (ls : Array Slot), lv_has ls 2 [(0, .ref p_this), (1, .int x1)] → va_P E.1 classes (w_X5_begins E p_this p_text p_told p_draft p_s p_images p_kept p_notes p_held p_soonest v_trace v_typed v_noted v_at v_sort v_start v_value v_vanillaIn f_draft f_told f_s f_kept) H → va_D A (w_X5_begins E p_this p_text p_told p_draft p_s p_images p_kept p_notes p_held p_soonest v_trace v_typed v_noted v_at v_sort v_start v_value v_vanillaIn f_draft f_told f_s f_kept) → va_S A s.heap H locs → W p l e (RM 1) s m args below meth c H locs 0 0 Q (F0 m 51 ls [.int k0, .int k1, .ref p_s]) := by
  obtain ⟨hx, hb, hml, hown, hts, hrt, hlk⟩ := id X
  intro H locs ls hl hP hD hS
  unfold f_X5_begins_51 at hf
  obtain ⟨g_1, hf⟩ := og hf
  refine iast X hK hP hD hS 3 rfl _ rfl g_1 dX5_begins_51 (fun H locs hP hD hS => ?_)
  have hP : va_P E.1 classes (w_X5_begins E p_this p_text p_told p_draft p_s p_images p_kept p_notes p_held p_soonest v_trace v_typed v_noted v_at v_sort v_start v_value v_vanillaIn f_draft f_told (upd f_s k1.toNatClampNeg k0) f_kept) H := hP
  have hD : va_D A (w_X5_begins E p_this p_text p_told p_draft p_s p_images p_kept p_notes p_held p_soonest v_trace v_typed v_noted v_at v_sort v_start v_value v_vanillaIn f_draft f_told (upd f_s k1.toNatClampNeg k0) f_kept) := hD
  refine lv_iinc (v := (x1 + (1 : Int32))) (lv' := [(1, .int (x1 + (1 : Int32))), (0, .ref p_this)]) hx hb dX5_begins_52 hl (k := 1) rfl rfl (by decide) rfl (fun ls hl => ?_)
  refine lv_goto (tgt := 28) hx hb dX5_begins_55 (by decide) ?_
  exact hK28 v_noted f_told (upd f_s k1.toNatClampNeg k0) f_kept (x1 + (1 : Int32)) hf H locs ls (lv_sub hl [1, 0] rfl) hP hD hS

set_option maxHeartbeats 4000000 in
set_option maxRecDepth 100000 in
theorem b_X5_begins_28 {p : Program} {l : Launch} {e : Env} {s : State} {m : MethodId} {args : Array Value} {below : List Frame} {meth : Method} {c : Code} {Q : State → Prop} {A : Nat → Prop} (E : Ev) (p_this : Nat) (p_text : Nat) (p_told : Nat) (p_draft : Nat) (p_s : Nat) (p_images : Nat) (p_kept : Nat) (p_notes : Nat) (p_held : Nat) (p_soonest : Nat) (v_trace : Int64) (v_typed : Int32) (v_at : Int32) (v_sort : Int32) (v_start : Int32) (v_value : Int32) (v_vanillaIn : Int32) (f_draft : Nat → Int32) (res : Int32 × (Nat → Int32) × (Nat → Int32) × (Nat → Int32)) (X : Cx p s m args meth c cX5_begins 2 RX5 none) (hK : KK E A s s.heap) (hA : ∀ q, s.heap.size ≤ q → A q) (hret : RetV p l e (RM 1) s m args below meth c Q E A cX5_begins (w_X5_begins E p_this p_text p_told p_draft p_s p_images p_kept p_notes p_held p_soonest v_trace v_typed res.1 v_at v_sort v_start v_value v_vanillaIn f_draft res.2.1 res.2.2.1 res.2.2.2))  : ∀ (n : Nat) (v_noted : Int32) (f_told : Nat → Int32) (f_s : Nat → Int32) (f_kept : Nat → Int32) (x1 : Int32), f_X5_begins_28 f_draft   n v_noted f_told f_s f_kept x1 = some res → ∀ (H : Heap) (locs : List Loc) (ls : Array Slot), lv_has ls 2 [(0, .ref p_this), (1, .int x1)] → va_P E.1 classes (w_X5_begins E p_this p_text p_told p_draft p_s p_images p_kept p_notes p_held p_soonest v_trace v_typed v_noted v_at v_sort v_start v_value v_vanillaIn f_draft f_told f_s f_kept) H → va_D A (w_X5_begins E p_this p_text p_told p_draft p_s p_images p_kept p_notes p_held p_soonest v_trace v_typed v_noted v_at v_sort v_start v_value v_vanillaIn f_draft f_told f_s f_kept) → va_S A s.heap H locs → W p l e (RM 1) s m args below meth c H locs 0 0 Q (F0 m 28 ls []) := by
  obtain ⟨hx, hb, hml, hown, hts, hrt, hlk⟩ := id X
  intro n
  induction n with
  | zero => intro v_noted f_told f_s f_kept x1 hf; exact absurd hf (by simp [f_X5_begins_28])
  | succ n ih =>
    intro v_noted f_told f_s f_kept x1 hf H locs ls hl hP hD hS
    unfold f_X5_begins_28 at hf
    refine lv_iload_n hx hb dX5_begins_28 rfl (lv_at hl 1 rfl) ?_
    refine lv_bipush (v := (14 : Int32)) hx hb dX5_begins_29 (by decide) ?_
    refine lv_icmp_gt (tgt := 58) hx hb dX5_begins_31 (by decide) (fun c_1 => ?_) (fun c_1 => ?_)
    · replace hf := ot c_1 hf
      refine lv_aload_n hx hb dX5_begins_58 rfl (lv_at hl 0 rfl) ?_
      refine lv_iconst (v := (0 : Int32)) hx hb dX5_begins_59 (by decide) ?_
      refine pf_RX5_88 X hK hP hD hS 0 rfl rfl dX5_begins_60 (fun H locs hP hD hS => ?_)
      have hP : va_P E.1 classes (w_X5_begins E p_this p_text p_told p_draft p_s p_images p_kept p_notes p_held p_soonest v_trace v_typed (0 : Int32) v_at v_sort v_start v_value v_vanillaIn f_draft f_told f_s f_kept) H := hP
      have hD : va_D A (w_X5_begins E p_this p_text p_told p_draft p_s p_images p_kept p_notes p_held p_soonest v_trace v_typed (0 : Int32) v_at v_sort v_start v_value v_vanillaIn f_draft f_told f_s f_kept) := hD
      refine lv_aload_n hx hb dX5_begins_63 rfl (lv_at hl 0 rfl) ?_
      refine gf_RX5_25 X hK hP 0 rfl rfl dX5_begins_64 ?_
      refine lv_iconst (v := (0 : Int32)) hx hb dX5_begins_67 (by decide) ?_
      refine lv_iconst (v := (0 : Int32)) hx hb dX5_begins_68 (by decide) ?_
      refine zast X hK hP hD hS 4 rfl 0 (by decide) (by decide) dX5_begins_69 (fun H locs hP hD hS => ?_)
      have hP : va_P E.1 classes (w_X5_begins E p_this p_text p_told p_draft p_s p_images p_kept p_notes p_held p_soonest v_trace v_typed (0 : Int32) v_at v_sort v_start v_value v_vanillaIn f_draft f_told f_s (upd f_kept 0 (vp_nar .boolean (0 : Int32)))) H := hP
      have hD : va_D A (w_X5_begins E p_this p_text p_told p_draft p_s p_images p_kept p_notes p_held p_soonest v_trace v_typed (0 : Int32) v_at v_sort v_start v_value v_vanillaIn f_draft f_told f_s (upd f_kept 0 (vp_nar .boolean (0 : Int32)))) := hD
      refine lv_aload_n hx hb dX5_begins_70 rfl (lv_at hl 0 rfl) ?_
      refine gf_RX5_25 X hK hP 0 rfl rfl dX5_begins_71 ?_
      refine lv_iconst (v := (1 : Int32)) hx hb dX5_begins_74 (by decide) ?_
      refine lv_iconst (v := (0 : Int32)) hx hb dX5_begins_75 (by decide) ?_
      refine zast X hK hP hD hS 4 rfl 1 (by decide) (by decide) dX5_begins_76 (fun H locs hP hD hS => ?_)
      have hP : va_P E.1 classes (w_X5_begins E p_this p_text p_told p_draft p_s p_images p_kept p_notes p_held p_soonest v_trace v_typed (0 : Int32) v_at v_sort v_start v_value v_vanillaIn f_draft f_told f_s (upd (upd f_kept 0 (vp_nar .boolean (0 : Int32))) 1 (vp_nar .boolean (0 : Int32)))) H := hP
      have hD : va_D A (w_X5_begins E p_this p_text p_told p_draft p_s p_images p_kept p_notes p_held p_soonest v_trace v_typed (0 : Int32) v_at v_sort v_start v_value v_vanillaIn f_draft f_told f_s (upd (upd f_kept 0 (vp_nar .boolean (0 : Int32))) 1 (vp_nar .boolean (0 : Int32)))) := hD
      obtain rfl := Option.some.inj hf
      exact hret H locs _ ls hP hS dX5_begins_77
    · replace hf := of c_1 hf
      refine lv_aload_n hx hb dX5_begins_34 rfl (lv_at hl 0 rfl) ?_
      refine gf_RX5_19 X hK hP 0 rfl rfl dX5_begins_35 ?_
      refine lv_iload_n hx hb dX5_begins_38 rfl (lv_at hl 1 rfl) ?_
      refine lv_iload_n hx hb dX5_begins_39 rfl (lv_at hl 1 rfl) ?_
      refine lv_bipush (v := (6 : Int32)) hx hb dX5_begins_40 (by decide) ?_
      refine lv_icmp_ge (tgt := 50) hx hb dX5_begins_42 (by decide) (fun c_4 => ?_) (fun c_4 => ?_)
      · replace hf := ot c_4 hf
        refine lv_iconst (v := (0 : Int32)) hx hb dX5_begins_50 (by decide) ?_
        exact b_X5_begins_51 E p_this p_text p_told p_draft p_s p_images p_kept p_notes p_held p_soonest v_trace v_typed v_at v_sort v_start v_value v_vanillaIn f_draft res X hK hA hret  (f_X5_begins_28 f_draft   n) ih v_noted f_told f_s f_kept x1 (0 : Int32) x1 hf H locs ls (lv_sub hl [0, 1] rfl) hP hD hS
      · replace hf := of c_4 hf
        refine lv_bipush (v := (-9 : Int32)) hx hb dX5_begins_45 (by decide) ?_
        refine lv_goto (tgt := 51) hx hb dX5_begins_47 (by decide) ?_
        exact b_X5_begins_51 E p_this p_text p_told p_draft p_s p_images p_kept p_notes p_held p_soonest v_trace v_typed v_at v_sort v_start v_value v_vanillaIn f_draft res X hK hA hret  (f_X5_begins_28 f_draft   n) ih v_noted f_told f_s f_kept x1 (-9 : Int32) x1 hf H locs ls (lv_sub hl [0, 1] rfl) hP hD hS

set_option maxHeartbeats 4000000 in
set_option maxRecDepth 100000 in
theorem b_X5_begins_2 {p : Program} {l : Launch} {e : Env} {s : State} {m : MethodId} {args : Array Value} {below : List Frame} {meth : Method} {c : Code} {Q : State → Prop} {A : Nat → Prop} (E : Ev) (p_this : Nat) (p_text : Nat) (p_told : Nat) (p_draft : Nat) (p_s : Nat) (p_images : Nat) (p_kept : Nat) (p_notes : Nat) (p_held : Nat) (p_soonest : Nat) (v_trace : Int64) (v_typed : Int32) (v_at : Int32) (v_sort : Int32) (v_start : Int32) (v_value : Int32) (v_vanillaIn : Int32) (f_draft : Nat → Int32) (res : Int32 × (Nat → Int32) × (Nat → Int32) × (Nat → Int32)) (X : Cx p s m args meth c cX5_begins 2 RX5 none) (hK : KK E A s s.heap) (hA : ∀ q, s.heap.size ≤ q → A q) (hret : RetV p l e (RM 1) s m args below meth c Q E A cX5_begins (w_X5_begins E p_this p_text p_told p_draft p_s p_images p_kept p_notes p_held p_soonest v_trace v_typed res.1 v_at v_sort v_start v_value v_vanillaIn f_draft res.2.1 res.2.2.1 res.2.2.2))  : ∀ (n : Nat) (v_noted : Int32) (f_told : Nat → Int32) (f_s : Nat → Int32) (f_kept : Nat → Int32) (x1 : Int32), f_X5_begins_2 f_draft   n v_noted f_told f_s f_kept x1 = some res → ∀ (H : Heap) (locs : List Loc) (ls : Array Slot), lv_has ls 2 [(0, .ref p_this), (1, .int x1)] → va_P E.1 classes (w_X5_begins E p_this p_text p_told p_draft p_s p_images p_kept p_notes p_held p_soonest v_trace v_typed v_noted v_at v_sort v_start v_value v_vanillaIn f_draft f_told f_s f_kept) H → va_D A (w_X5_begins E p_this p_text p_told p_draft p_s p_images p_kept p_notes p_held p_soonest v_trace v_typed v_noted v_at v_sort v_start v_value v_vanillaIn f_draft f_told f_s f_kept) → va_S A s.heap H locs → W p l e (RM 1) s m args below meth c H locs 0 0 Q (F0 m 2 ls []) := by
  obtain ⟨hx, hb, hml, hown, hts, hrt, hlk⟩ := id X
  intro n
  induction n with
  | zero => intro v_noted f_told f_s f_kept x1 hf; exact absurd hf (by simp [f_X5_begins_2])
  | succ n ih =>
    intro v_noted f_told f_s f_kept x1 hf H locs ls hl hP hD hS
    unfold f_X5_begins_2 at hf
    refine lv_iload_n hx hb dX5_begins_2 rfl (lv_at hl 1 rfl) ?_
    refine lv_bipush (v := (43 : Int32)) hx hb dX5_begins_3 (by decide) ?_
    refine lv_icmp_ge (tgt := 26) hx hb dX5_begins_5 (by decide) (fun c_1 => ?_) (fun c_1 => ?_)
    · replace hf := ot c_1 hf
      refine lv_iconst (v := (0 : Int32)) hx hb dX5_begins_26 (by decide) ?_
      refine lv_istore_n (lv' := [(1, .int (0 : Int32)), (0, .ref p_this)]) hx hb dX5_begins_27 rfl hl (by decide) rfl (fun ls hl => ?_)
      exact b_X5_begins_28 E p_this p_text p_told p_draft p_s p_images p_kept p_notes p_held p_soonest v_trace v_typed v_at v_sort v_start v_value v_vanillaIn f_draft res X hK hA hret   FU v_noted f_told f_s f_kept (0 : Int32) hf H locs ls (lv_sub hl [1, 0] rfl) hP hD hS
    · replace hf := of c_1 hf
      refine lv_aload_n hx hb dX5_begins_8 rfl (lv_at hl 0 rfl) ?_
      refine gf_RX5_13 X hK hP 0 rfl rfl dX5_begins_9 ?_
      refine lv_iload_n hx hb dX5_begins_12 rfl (lv_at hl 1 rfl) ?_
      refine lv_aload_n hx hb dX5_begins_13 rfl (lv_at hl 0 rfl) ?_
      refine gf_RX5_16 X hK hP 0 rfl rfl dX5_begins_14 ?_
      refine lv_iload_n hx hb dX5_begins_17 rfl (lv_at hl 1 rfl) ?_
      obtain ⟨g_2, hf⟩ := og hf
      refine iald X hK hP 1 rfl _ rfl g_2 dX5_begins_18 ?_
      obtain ⟨g_3, hf⟩ := og hf
      refine iast X hK hP hD hS 2 rfl _ rfl g_3 dX5_begins_19 (fun H locs hP hD hS => ?_)
      have hP : va_P E.1 classes (w_X5_begins E p_this p_text p_told p_draft p_s p_images p_kept p_notes p_held p_soonest v_trace v_typed v_noted v_at v_sort v_start v_value v_vanillaIn f_draft (upd f_told x1.toNatClampNeg (f_draft x1.toNatClampNeg)) f_s f_kept) H := hP
      have hD : va_D A (w_X5_begins E p_this p_text p_told p_draft p_s p_images p_kept p_notes p_held p_soonest v_trace v_typed v_noted v_at v_sort v_start v_value v_vanillaIn f_draft (upd f_told x1.toNatClampNeg (f_draft x1.toNatClampNeg)) f_s f_kept) := hD
      refine lv_iinc (v := (x1 + (1 : Int32))) (lv' := [(1, .int (x1 + (1 : Int32))), (0, .ref p_this)]) hx hb dX5_begins_20 hl (k := 1) rfl rfl (by decide) rfl (fun ls hl => ?_)
      refine lv_goto (tgt := 2) hx hb dX5_begins_23 (by decide) ?_
      exact ih v_noted (upd f_told x1.toNatClampNeg (f_draft x1.toNatClampNeg)) f_s f_kept (x1 + (1 : Int32)) hf H locs ls (lv_sub hl [1, 0] rfl) hP hD hS

set_option maxHeartbeats 4000000 in
set_option maxRecDepth 100000 in
theorem m_X5_begins {l : Launch} (E : Ev) (p_this : Nat) (p_text : Nat) (p_told : Nat) (p_draft : Nat) (p_s : Nat) (p_images : Nat) (p_kept : Nat) (p_notes : Nat) (p_held : Nat) (p_soonest : Nat) (v_trace : Int64) (v_typed : Int32) (v_noted : Int32) (v_at : Int32) (v_sort : Int32) (v_start : Int32) (v_value : Int32) (v_vanillaIn : Int32) (f_draft : Nat → Int32) (f_told : Nat → Int32) (f_s : Nat → Int32) (f_kept : Nat → Int32)  (res : Int32 × (Nat → Int32) × (Nat → Int32) × (Nat → Int32)) (hf : f_X5_begins  f_draft v_noted f_told f_s f_kept  = some res) : MutV l E 1 yX5_begins cX5_begins 2 [.ref p_this] (w_X5_begins E p_this p_text p_told p_draft p_s p_images p_kept p_notes p_held p_soonest v_trace v_typed v_noted v_at v_sort v_start v_value v_vanillaIn f_draft f_told f_s f_kept) (w_X5_begins E p_this p_text p_told p_draft p_s p_images p_kept p_notes p_held p_soonest v_trace v_typed res.1 v_at v_sort v_start v_value v_vanillaIn f_draft res.2.1 res.2.2.1 res.2.2.2) := by
  refine MutV.of (by decide) (Nat.le_of_ble_eq_true rfl) ?_
  intro p e s m args below meth c Q A X hK hA hret H locs ls hl hP hD hS
  obtain ⟨hx, hb, hml, hown, hts, hrt, hlk⟩ := id X
  have hl : lv_has ls 2 [(0, .ref p_this)] := hl
  unfold f_X5_begins at hf
  refine lv_iconst (v := (0 : Int32)) hx hb dX5_begins_0 (by decide) ?_
  refine lv_istore_n (lv' := [(1, .int (0 : Int32)), (0, .ref p_this)]) hx hb dX5_begins_1 rfl hl (by decide) rfl (fun ls hl => ?_)
  exact b_X5_begins_2 E p_this p_text p_told p_draft p_s p_images p_kept p_notes p_held p_soonest v_trace v_typed v_at v_sort v_start v_value v_vanillaIn f_draft res X hK hA hret   FU v_noted f_told f_s f_kept (0 : Int32) hf H locs ls (lv_sub hl [1, 0] rfl) hP hD hS

abbrev w_X5_quarter (E : Ev) (p_this : Nat) (p_text : Nat) (p_told : Nat) (p_draft : Nat) (p_s : Nat) (p_images : Nat) (p_kept : Nat) (p_notes : Nat) (p_held : Nat) (p_soonest : Nat) (v_trace : Int64) (v_typed : Int32) (v_noted : Int32) (v_at : Int32) (v_sort : Int32) (v_start : Int32) (v_value : Int32) (v_vanillaIn : Int32) (f_draft : Nat → Int32) (f_text : Nat → Int32) (f_told : Nat → Int32) (f_s : Nat → Int32) (f_kept : Nat → Int32) : va_W := [(p_this, .inr (5, [.long v_trace, .ref p_text, .int v_typed, .ref p_told, .ref p_draft, .ref p_s, .ref p_images, .ref p_kept, .ref p_notes, .int v_noted, .int v_at, .int v_sort, .int v_start, .int v_value, .int v_vanillaIn, .ref p_held, .ref p_soonest])), (p_draft, .inl (E.2.1, 43, .inl f_draft)), (p_text, .inl (E.2.1, 180, .inl f_text)), (p_told, .inl (E.2.1, 43, .inl f_told)), (p_s, .inl (E.2.1, 155, .inl f_s)), (p_kept, .inl (E.2.2.1, 2, .inl f_kept))]
set_option maxHeartbeats 4000000 in
set_option maxRecDepth 100000 in
theorem m_X5_quarter {l : Launch} (E : Ev) (p_this : Nat) (p_text : Nat) (p_told : Nat) (p_draft : Nat) (p_s : Nat) (p_images : Nat) (p_kept : Nat) (p_notes : Nat) (p_held : Nat) (p_soonest : Nat) (v_trace : Int64) (v_typed : Int32) (v_noted : Int32) (v_at : Int32) (v_sort : Int32) (v_start : Int32) (v_value : Int32) (v_vanillaIn : Int32) (f_draft : Nat → Int32) (f_text : Nat → Int32) (f_told : Nat → Int32) (f_s : Nat → Int32) (f_kept : Nat → Int32)  (res : Int32 × Int32 × Int32 × Int32 × Int32 × Int32 × Int32 × (Nat → Int32) × (Nat → Int32) × (Nat → Int32) × (Nat → Int32)) (hf : f_X5_quarter  f_text v_typed v_noted v_at v_sort v_start v_value f_draft f_told f_s f_kept  = some res) : MutI l E 7 yX5_quarter cX5_quarter 1 .int [.ref p_this] (w_X5_quarter E p_this p_text p_told p_draft p_s p_images p_kept p_notes p_held p_soonest v_trace v_typed v_noted v_at v_sort v_start v_value v_vanillaIn f_draft f_text f_told f_s f_kept) (w_X5_quarter E p_this p_text p_told p_draft p_s p_images p_kept p_notes p_held p_soonest v_trace res.2.1 res.2.2.1 res.2.2.2.1 res.2.2.2.2.1 res.2.2.2.2.2.1 res.2.2.2.2.2.2.1 v_vanillaIn res.2.2.2.2.2.2.2.1 f_text res.2.2.2.2.2.2.2.2.1 res.2.2.2.2.2.2.2.2.2.1 res.2.2.2.2.2.2.2.2.2.2) res.1 := by
  refine MutI.of (by decide) (Nat.le_of_ble_eq_true rfl) ?_
  intro p e s m args below meth c Q A X hK hA hret H locs ls hl hP hD hS
  obtain ⟨hx, hb, hml, hown, hts, hrt, hlk⟩ := id X
  have hl : lv_has ls 1 [(0, .ref p_this)] := hl
  unfold f_X5_quarter at hf
  refine lv_aload_n hx hb dX5_quarter_0 rfl (lv_at hl 0 rfl) ?_
  obtain ⟨u_1, hu_1, hf⟩ := ob hf
  refine mV X hK hA hP hD hS hl.1 (m_X5_reads (l := l) E p_this p_text p_told p_draft p_s p_images p_kept p_notes p_held p_soonest v_trace v_typed v_noted v_at v_sort v_start v_value v_vanillaIn f_draft f_text  u_1 hu_1) kRX5_42 [0, 1, 2] rfl rfl (by simp only [w_X5_reads, List.map]) rfl rfl rfl ⟨⟨(Nat.le_of_ble_eq_true rfl), (Nat.le_of_ble_eq_true rfl)⟩, Nat.zero_le _, Nat.zero_le _⟩ rfl rfl (Nat.le_of_ble_eq_true rfl) dX5_quarter_1 (fun H locs hP hD hS => ?_)
  have hP : va_P E.1 classes (w_X5_quarter E p_this p_text p_told p_draft p_s p_images p_kept p_notes p_held p_soonest v_trace v_typed v_noted u_1.2.1 u_1.2.2.1 u_1.2.2.2.1 u_1.2.2.2.2.1 v_vanillaIn u_1.2.2.2.2.2 f_text f_told f_s f_kept) H := hP
  have hD : va_D A (w_X5_quarter E p_this p_text p_told p_draft p_s p_images p_kept p_notes p_held p_soonest v_trace v_typed v_noted u_1.2.1 u_1.2.2.1 u_1.2.2.2.1 u_1.2.2.2.2.1 v_vanillaIn u_1.2.2.2.2.2 f_text f_told f_s f_kept) := hD
  refine lv_if_ne (tgt := 15) hx hb dX5_quarter_4 (by decide) (fun c_2 => ?_) (fun c_2 => ?_)
  · replace hf := of c_2 hf
    refine lv_aload_n hx hb dX5_quarter_15 rfl (lv_at hl 0 rfl) ?_
    obtain ⟨u_3, hu_3, hf⟩ := ob hf
    refine mVv X hK hA hP hD hS hl.1 (m_X5_begins (l := l) E p_this p_text p_told p_draft p_s p_images p_kept p_notes p_held p_soonest v_trace v_typed v_noted u_1.2.1 u_1.2.2.1 u_1.2.2.2.1 u_1.2.2.2.2.1 v_vanillaIn u_1.2.2.2.2.2 f_told f_s f_kept  u_3 hu_3) kRX5_46 [0, 1, 3, 4, 5] rfl rfl (by simp only [w_X5_begins, List.map]) rfl rfl rfl ⟨⟨(Nat.le_of_ble_eq_true rfl), (Nat.le_of_ble_eq_true rfl)⟩, Nat.zero_le _, Nat.zero_le _⟩ rfl rfl (Nat.le_of_ble_eq_true rfl) dX5_quarter_16 (fun H locs hP hD hS => ?_)
    have hP : va_P E.1 classes (w_X5_quarter E p_this p_text p_told p_draft p_s p_images p_kept p_notes p_held p_soonest v_trace v_typed u_3.1 u_1.2.1 u_1.2.2.1 u_1.2.2.2.1 u_1.2.2.2.2.1 v_vanillaIn u_1.2.2.2.2.2 f_text u_3.2.1 u_3.2.2.1 u_3.2.2.2) H := hP
    have hD : va_D A (w_X5_quarter E p_this p_text p_told p_draft p_s p_images p_kept p_notes p_held p_soonest v_trace v_typed u_3.1 u_1.2.1 u_1.2.2.1 u_1.2.2.2.1 u_1.2.2.2.2.1 v_vanillaIn u_1.2.2.2.2.2 f_text u_3.2.1 u_3.2.2.1 u_3.2.2.2) := hD
    refine lv_aload_n hx hb dX5_quarter_19 rfl (lv_at hl 0 rfl) ?_
    refine lv_iconst (v := (0 : Int32)) hx hb dX5_quarter_20 (by decide) ?_
    refine pf_RX5_53 X hK hP hD hS 0 rfl rfl dX5_quarter_21 (fun H locs hP hD hS => ?_)
    have hP : va_P E.1 classes (w_X5_quarter E p_this p_text p_told p_draft p_s p_images p_kept p_notes p_held p_soonest v_trace (0 : Int32) u_3.1 u_1.2.1 u_1.2.2.1 u_1.2.2.2.1 u_1.2.2.2.2.1 v_vanillaIn u_1.2.2.2.2.2 f_text u_3.2.1 u_3.2.2.1 u_3.2.2.2) H := hP
    have hD : va_D A (w_X5_quarter E p_this p_text p_told p_draft p_s p_images p_kept p_notes p_held p_soonest v_trace (0 : Int32) u_3.1 u_1.2.1 u_1.2.2.1 u_1.2.2.2.1 u_1.2.2.2.2.1 v_vanillaIn u_1.2.2.2.2.2 f_text u_3.2.1 u_3.2.2.1 u_3.2.2.2) := hD
    refine lv_aload_n hx hb dX5_quarter_24 rfl (lv_at hl 0 rfl) ?_
    refine gf_RX5_13 X hK hP 0 rfl rfl dX5_quarter_25 ?_
    refine lv_iconst (v := (2 : Int32)) hx hb dX5_quarter_28 (by decide) ?_
    refine iald X hK hP 3 rfl 2 (by decide) (by decide) dX5_quarter_29 ?_
    obtain rfl := Option.some.inj hf
    exact hret H locs _ ls rfl hP hS dX5_quarter_30
  · replace hf := ot c_2 hf
    refine lv_bipush (v := (-10 : Int32)) hx hb dX5_quarter_7 (by decide) ?_
    refine lv_aload_n hx hb dX5_quarter_9 rfl (lv_at hl 0 rfl) ?_
    refine gf_RX5_63 X hK hP 0 rfl rfl dX5_quarter_10 ?_
    refine lv_isub hx hb dX5_quarter_13 ?_
    obtain rfl := Option.some.inj hf
    exact hret H locs _ ls rfl hP hS dX5_quarter_14

abbrev w_X5_ones (E : Ev)   : va_W := []
set_option maxHeartbeats 4000000 in
set_option maxRecDepth 100000 in
theorem b_X5_ones_4 {p : Program} {l : Launch} {e : Env} {s : State} {m : MethodId} {args : Array Value} {below : List Frame} {meth : Method} {c : Code} {Q : State → Prop} {A : Nat → Prop} (E : Ev)  (res : Int32) (X : Cx p s m args meth c cX5_ones 3 RX5 (some .int)) (hK : KK E A s s.heap) (hA : ∀ q, s.heap.size ≤ q → A q) (hret : RetI p l e (RM 1) s m args below meth c Q E A cX5_ones .int (w_X5_ones E ) res)  : ∀ (n : Nat) (x0 : Int32) (x1 : Int32) (x2 : Int32), f_X5_ones_4    n x0 x1 x2 = some res → ∀ (H : Heap) (locs : List Loc) (ls : Array Slot), lv_has ls 3 [(0, .int x0), (1, .int x1), (2, .int x2)] → va_P E.1 classes (w_X5_ones E ) H → va_S A s.heap H locs → W p l e (RM 1) s m args below meth c H locs 0 0 Q (F0 m 4 ls []) := by
  obtain ⟨hx, hb, hml, hown, hts, hrt, hlk⟩ := id X
  intro n
  induction n with
  | zero => intro x0 x1 x2 hf; exact absurd hf (by simp [f_X5_ones_4])
  | succ n ih =>
    intro x0 x1 x2 hf H locs ls hl hP hS
    unfold f_X5_ones_4 at hf
    refine lv_iload_n hx hb dX5_ones_4 rfl (lv_at hl 2 rfl) ?_
    refine lv_bipush (v := (6 : Int32)) hx hb dX5_ones_5 (by decide) ?_
    refine lv_icmp_ge (tgt := 24) hx hb dX5_ones_7 (by decide) (fun c_1 => ?_) (fun c_1 => ?_)
    · replace hf := ot c_1 hf
      refine lv_iload_n hx hb dX5_ones_24 rfl (lv_at hl 1 rfl) ?_
      obtain rfl := Option.some.inj hf
      exact hret H locs _ ls rfl hP hS dX5_ones_25
    · replace hf := of c_1 hf
      refine lv_iload_n hx hb dX5_ones_10 rfl (lv_at hl 1 rfl) ?_
      refine lv_iload_n hx hb dX5_ones_11 rfl (lv_at hl 0 rfl) ?_
      refine lv_iload_n hx hb dX5_ones_12 rfl (lv_at hl 2 rfl) ?_
      refine lv_ishr hx hb dX5_ones_13 ?_
      refine lv_iconst (v := (1 : Int32)) hx hb dX5_ones_14 (by decide) ?_
      refine lv_iand hx hb dX5_ones_15 ?_
      refine lv_iadd hx hb dX5_ones_16 ?_
      refine lv_istore_n (lv' := [(1, .int (x1 + ((x0 >>> (x2 &&& 31)) &&& (1 : Int32)))), (0, .int x0), (2, .int x2)]) hx hb dX5_ones_17 rfl hl (by decide) rfl (fun ls hl => ?_)
      refine lv_iinc (v := (x2 + (1 : Int32))) (lv' := [(2, .int (x2 + (1 : Int32))), (1, .int (x1 + ((x0 >>> (x2 &&& 31)) &&& (1 : Int32)))), (0, .int x0)]) hx hb dX5_ones_18 hl (k := 2) rfl rfl (by decide) rfl (fun ls hl => ?_)
      refine lv_goto (tgt := 4) hx hb dX5_ones_21 (by decide) ?_
      exact ih x0 (x1 + ((x0 >>> (x2 &&& 31)) &&& (1 : Int32))) (x2 + (1 : Int32)) hf H locs ls (lv_sub hl [2, 1, 0] rfl) hP hS

set_option maxHeartbeats 4000000 in
set_option maxRecDepth 100000 in
theorem m_X5_ones {l : Launch} (E : Ev)   (x0 : Int32) (res : Int32) (hf : f_X5_ones   x0 = some res) : PureI l E 1 yX5_ones cX5_ones 3 .int [.int x0] [] res := by
  refine PureI.of (by decide) (Nat.le_of_ble_eq_true rfl) ?_
  intro p e s m args below meth c Q A X hK hA hret H locs ls hl hP hS
  obtain ⟨hx, hb, hml, hown, hts, hrt, hlk⟩ := id X
  have hl : lv_has ls 3 [(0, .int x0)] := hl
  unfold f_X5_ones at hf
  refine lv_iconst (v := (0 : Int32)) hx hb dX5_ones_0 (by decide) ?_
  refine lv_istore_n (lv' := [(1, .int (0 : Int32)), (0, .int x0)]) hx hb dX5_ones_1 rfl hl (by decide) rfl (fun ls hl => ?_)
  refine lv_iconst (v := (0 : Int32)) hx hb dX5_ones_2 (by decide) ?_
  refine lv_istore_n (lv' := [(2, .int (0 : Int32)), (1, .int (0 : Int32)), (0, .int x0)]) hx hb dX5_ones_3 rfl hl (by decide) rfl (fun ls hl => ?_)
  exact b_X5_ones_4 E   res X hK hA hret   FU x0 (0 : Int32) (0 : Int32) hf H locs ls (lv_sub hl [2, 1, 0] rfl) hP hS

abbrev w_X5_whereAll (E : Ev) (p_this : Nat) (p_text : Nat) (p_told : Nat) (p_draft : Nat) (p_s : Nat) (p_images : Nat) (p_kept : Nat) (p_notes : Nat) (p_held : Nat) (p_soonest : Nat) (v_trace : Int64) (v_typed : Int32) (v_noted : Int32) (v_at : Int32) (v_sort : Int32) (v_start : Int32) (v_value : Int32) (v_vanillaIn : Int32) (f_told : Nat → Int32) (f_s : Nat → Int32) : va_W := [(p_this, .inr (5, [.long v_trace, .ref p_text, .int v_typed, .ref p_told, .ref p_draft, .ref p_s, .ref p_images, .ref p_kept, .ref p_notes, .int v_noted, .int v_at, .int v_sort, .int v_start, .int v_value, .int v_vanillaIn, .ref p_held, .ref p_soonest])), (p_told, .inl (E.2.1, 43, .inl f_told)), (p_s, .inl (E.2.1, 155, .inl f_s))]
set_option maxHeartbeats 4000000 in
set_option maxRecDepth 100000 in
theorem b_X5_whereAll_32 {p : Program} {l : Launch} {e : Env} {s : State} {m : MethodId} {args : Array Value} {below : List Frame} {meth : Method} {c : Code} {Q : State → Prop} {A : Nat → Prop} (E : Ev) (p_this : Nat) (p_text : Nat) (p_told : Nat) (p_draft : Nat) (p_s : Nat) (p_images : Nat) (p_kept : Nat) (p_notes : Nat) (p_held : Nat) (p_soonest : Nat) (v_trace : Int64) (v_typed : Int32) (v_noted : Int32) (v_at : Int32) (v_sort : Int32) (v_start : Int32) (v_value : Int32) (v_vanillaIn : Int32) (f_told : Nat → Int32) (f_s : Nat → Int32) (res : Int32) (X : Cx p s m args meth c cX5_whereAll 4 RX5 (some .int)) (hK : KK E A s s.heap) (hA : ∀ q, s.heap.size ≤ q → A q) (hret : RetI p l e (RM 1) s m args below meth c Q E A cX5_whereAll .int (w_X5_whereAll E p_this p_text p_told p_draft p_s p_images p_kept p_notes p_held p_soonest v_trace v_typed v_noted v_at v_sort v_start v_value v_vanillaIn f_told f_s) res) (K4 : Int32 → Int32 → Int32 → Option Int32) (hK4 : ∀ (x1 : Int32) (x2 : Int32) (x3 : Int32), K4 x1 x2 x3 = some res → ∀ (H : Heap) (locs : List Loc) (ls : Array Slot), lv_has ls 4 [(0, .ref p_this), (1, .int x1), (2, .int x2), (3, .int x3)] → va_P E.1 classes (w_X5_whereAll E p_this p_text p_told p_draft p_s p_images p_kept p_notes p_held p_soonest v_trace v_typed v_noted v_at v_sort v_start v_value v_vanillaIn f_told f_s) H → va_S A s.heap H locs → W p l e (RM 1) s m args below meth c H locs 0 0 Q (F0 m 4 ls [])) (x1 : Int32) (x3 : Int32) (k0 : Int32) (k1 : Int32) (hf : f_X5_whereAll_32 f_told f_s  K4 x1 x3 k0 k1 = some res) : ∀ (H : Heap) (locs : List Loc) (ls : Array Slot), lv_has ls 4 [(0, .ref p_this), (1, .int x1), (3, .int x3)] → va_P E.1 classes (w_X5_whereAll E p_this p_text p_told p_draft p_s p_images p_kept p_notes p_held p_soonest v_trace v_typed v_noted v_at v_sort v_start v_value v_vanillaIn f_told f_s) H → va_S A s.heap H locs → W p l e (RM 1) s m args below meth c H locs 0 0 Q (F0 m 32 ls [.int k0, .int k1]) := by
  obtain ⟨hx, hb, hml, hown, hts, hrt, hlk⟩ := id X
  intro H locs ls hl hP hS
  unfold f_X5_whereAll_32 at hf
  refine lv_ior hx hb dX5_whereAll_32 ?_
  refine lv_istore_n (lv' := [(2, .int (k1 ||| k0)), (0, .ref p_this), (1, .int x1), (3, .int x3)]) hx hb dX5_whereAll_33 rfl hl (by decide) rfl (fun ls hl => ?_)
  refine lv_iinc (v := (x3 + (1 : Int32))) (lv' := [(3, .int (x3 + (1 : Int32))), (2, .int (k1 ||| k0)), (0, .ref p_this), (1, .int x1)]) hx hb dX5_whereAll_34 hl (k := 3) rfl rfl (by decide) rfl (fun ls hl => ?_)
  refine lv_goto (tgt := 4) hx hb dX5_whereAll_37 (by decide) ?_
  exact hK4 x1 (k1 ||| k0) (x3 + (1 : Int32)) hf H locs ls (lv_sub hl [2, 3, 1, 0] rfl) hP hS

set_option maxHeartbeats 4000000 in
set_option maxRecDepth 100000 in
theorem b_X5_whereAll_4 {p : Program} {l : Launch} {e : Env} {s : State} {m : MethodId} {args : Array Value} {below : List Frame} {meth : Method} {c : Code} {Q : State → Prop} {A : Nat → Prop} (E : Ev) (p_this : Nat) (p_text : Nat) (p_told : Nat) (p_draft : Nat) (p_s : Nat) (p_images : Nat) (p_kept : Nat) (p_notes : Nat) (p_held : Nat) (p_soonest : Nat) (v_trace : Int64) (v_typed : Int32) (v_noted : Int32) (v_at : Int32) (v_sort : Int32) (v_start : Int32) (v_value : Int32) (v_vanillaIn : Int32) (f_told : Nat → Int32) (f_s : Nat → Int32) (res : Int32) (X : Cx p s m args meth c cX5_whereAll 4 RX5 (some .int)) (hK : KK E A s s.heap) (hA : ∀ q, s.heap.size ≤ q → A q) (hret : RetI p l e (RM 1) s m args below meth c Q E A cX5_whereAll .int (w_X5_whereAll E p_this p_text p_told p_draft p_s p_images p_kept p_notes p_held p_soonest v_trace v_typed v_noted v_at v_sort v_start v_value v_vanillaIn f_told f_s) res)  : ∀ (n : Nat) (x1 : Int32) (x2 : Int32) (x3 : Int32), f_X5_whereAll_4 f_told f_s   n x1 x2 x3 = some res → ∀ (H : Heap) (locs : List Loc) (ls : Array Slot), lv_has ls 4 [(0, .ref p_this), (1, .int x1), (2, .int x2), (3, .int x3)] → va_P E.1 classes (w_X5_whereAll E p_this p_text p_told p_draft p_s p_images p_kept p_notes p_held p_soonest v_trace v_typed v_noted v_at v_sort v_start v_value v_vanillaIn f_told f_s) H → va_S A s.heap H locs → W p l e (RM 1) s m args below meth c H locs 0 0 Q (F0 m 4 ls []) := by
  obtain ⟨hx, hb, hml, hown, hts, hrt, hlk⟩ := id X
  intro n
  induction n with
  | zero => intro x1 x2 x3 hf; exact absurd hf (by simp [f_X5_whereAll_4])
  | succ n ih =>
    intro x1 x2 x3 hf H locs ls hl hP hS
    unfold f_X5_whereAll_4 at hf
    refine lv_iload_n hx hb dX5_whereAll_4 rfl (lv_at hl 3 rfl) ?_
    refine lv_aload_n hx hb dX5_whereAll_5 rfl (lv_at hl 0 rfl) ?_
    refine gf_RX5_13 X hK hP 0 rfl rfl dX5_whereAll_6 ?_
    refine lv_iconst (v := (1 : Int32)) hx hb dX5_whereAll_9 (by decide) ?_
    refine iald X hK hP 1 rfl 1 (by decide) (by decide) dX5_whereAll_10 ?_
    refine lv_icmp_ge (tgt := 40) hx hb dX5_whereAll_11 (by decide) (fun c_2 => ?_) (fun c_2 => ?_)
    · replace hf := ot c_2 hf
      refine lv_iload_n hx hb dX5_whereAll_40 rfl (lv_at hl 2 rfl) ?_
      obtain rfl := Option.some.inj hf
      exact hret H locs _ ls rfl hP hS dX5_whereAll_41
    · replace hf := of c_2 hf
      refine lv_iload_n hx hb dX5_whereAll_14 rfl (lv_at hl 2 rfl) ?_
      refine lv_aload_n hx hb dX5_whereAll_15 rfl (lv_at hl 0 rfl) ?_
      refine gf_RX5_19 X hK hP 0 rfl rfl dX5_whereAll_16 ?_
      refine lv_iload_n hx hb dX5_whereAll_19 rfl (lv_at hl 3 rfl) ?_
      obtain ⟨g_3, hf⟩ := og hf
      refine iald X hK hP 2 rfl _ rfl g_3 dX5_whereAll_20 ?_
      refine lv_iload_n hx hb dX5_whereAll_21 rfl (lv_at hl 1 rfl) ?_
      refine lv_icmp_ne (tgt := 31) hx hb dX5_whereAll_22 (by decide) (fun c_4 => ?_) (fun c_4 => ?_)
      · replace hf := of c_4 hf
        refine lv_iconst (v := (0 : Int32)) hx hb dX5_whereAll_31 (by decide) ?_
        exact b_X5_whereAll_32 E p_this p_text p_told p_draft p_s p_images p_kept p_notes p_held p_soonest v_trace v_typed v_noted v_at v_sort v_start v_value v_vanillaIn f_told f_s res X hK hA hret  (f_X5_whereAll_4 f_told f_s   n) ih x1 x3 (0 : Int32) x2 hf H locs ls (lv_sub hl [0, 1, 3] rfl) hP hS
      · replace hf := ot c_4 hf
        refine lv_iconst (v := (1 : Int32)) hx hb dX5_whereAll_25 (by decide) ?_
        refine lv_iload_n hx hb dX5_whereAll_26 rfl (lv_at hl 3 rfl) ?_
        refine lv_ishl hx hb dX5_whereAll_27 ?_
        refine lv_goto (tgt := 32) hx hb dX5_whereAll_28 (by decide) ?_
        exact b_X5_whereAll_32 E p_this p_text p_told p_draft p_s p_images p_kept p_notes p_held p_soonest v_trace v_typed v_noted v_at v_sort v_start v_value v_vanillaIn f_told f_s res X hK hA hret  (f_X5_whereAll_4 f_told f_s   n) ih x1 x3 ((1 : Int32) <<< (x3 &&& 31)) x2 hf H locs ls (lv_sub hl [0, 1, 3] rfl) hP hS

set_option maxHeartbeats 4000000 in
set_option maxRecDepth 100000 in
theorem m_X5_whereAll {l : Launch} (E : Ev) (p_this : Nat) (p_text : Nat) (p_told : Nat) (p_draft : Nat) (p_s : Nat) (p_images : Nat) (p_kept : Nat) (p_notes : Nat) (p_held : Nat) (p_soonest : Nat) (v_trace : Int64) (v_typed : Int32) (v_noted : Int32) (v_at : Int32) (v_sort : Int32) (v_start : Int32) (v_value : Int32) (v_vanillaIn : Int32) (f_told : Nat → Int32) (f_s : Nat → Int32) (x1 : Int32) (res : Int32) (hf : f_X5_whereAll  f_told f_s x1 = some res) : PureI l E 1 yX5_whereAll cX5_whereAll 4 .int [.ref p_this, .int x1] (w_X5_whereAll E p_this p_text p_told p_draft p_s p_images p_kept p_notes p_held p_soonest v_trace v_typed v_noted v_at v_sort v_start v_value v_vanillaIn f_told f_s) res := by
  refine PureI.of (by decide) (Nat.le_of_ble_eq_true rfl) ?_
  intro p e s m args below meth c Q A X hK hA hret H locs ls hl hP hS
  obtain ⟨hx, hb, hml, hown, hts, hrt, hlk⟩ := id X
  have hl : lv_has ls 4 [(0, .ref p_this), (1, .int x1)] := hl
  unfold f_X5_whereAll at hf
  refine lv_iconst (v := (0 : Int32)) hx hb dX5_whereAll_0 (by decide) ?_
  refine lv_istore_n (lv' := [(2, .int (0 : Int32)), (0, .ref p_this), (1, .int x1)]) hx hb dX5_whereAll_1 rfl hl (by decide) rfl (fun ls hl => ?_)
  refine lv_iconst (v := (0 : Int32)) hx hb dX5_whereAll_2 (by decide) ?_
  refine lv_istore_n (lv' := [(3, .int (0 : Int32)), (2, .int (0 : Int32)), (0, .ref p_this), (1, .int x1)]) hx hb dX5_whereAll_3 rfl hl (by decide) rfl (fun ls hl => ?_)
  exact b_X5_whereAll_4 E p_this p_text p_told p_draft p_s p_images p_kept p_notes p_held p_soonest v_trace v_typed v_noted v_at v_sort v_start v_value v_vanillaIn f_told f_s res X hK hA hret   FU x1 (0 : Int32) (0 : Int32) hf H locs ls (lv_sub hl [2, 3, 1, 0] rfl) hP hS

abbrev w_X5_hot (E : Ev) (p_this : Nat) (p_text : Nat) (p_told : Nat) (p_draft : Nat) (p_s : Nat) (p_images : Nat) (p_kept : Nat) (p_notes : Nat) (p_held : Nat) (p_soonest : Nat) (v_trace : Int64) (v_typed : Int32) (v_noted : Int32) (v_at : Int32) (v_sort : Int32) (v_start : Int32) (v_value : Int32) (v_vanillaIn : Int32) (f_told : Nat → Int32) (f_s : Nat → Int32) : va_W := [(p_this, .inr (5, [.long v_trace, .ref p_text, .int v_typed, .ref p_told, .ref p_draft, .ref p_s, .ref p_images, .ref p_kept, .ref p_notes, .int v_noted, .int v_at, .int v_sort, .int v_start, .int v_value, .int v_vanillaIn, .ref p_held, .ref p_soonest])), (p_told, .inl (E.2.1, 43, .inl f_told)), (p_s, .inl (E.2.1, 155, .inl f_s))]
set_option maxHeartbeats 4000000 in
set_option maxRecDepth 100000 in
theorem m_X5_hot {l : Launch} (E : Ev) (p_this : Nat) (p_text : Nat) (p_told : Nat) (p_draft : Nat) (p_s : Nat) (p_images : Nat) (p_kept : Nat) (p_notes : Nat) (p_held : Nat) (p_soonest : Nat) (v_trace : Int64) (v_typed : Int32) (v_noted : Int32) (v_at : Int32) (v_sort : Int32) (v_start : Int32) (v_value : Int32) (v_vanillaIn : Int32) (f_told : Nat → Int32) (f_s : Nat → Int32) (x1 : Int32) (res : Int32) (hf : f_X5_hot  f_told f_s x1 = some res) : PureI l E 2 yX5_hot cX5_hot 2 .int [.ref p_this, .int x1] (w_X5_hot E p_this p_text p_told p_draft p_s p_images p_kept p_notes p_held p_soonest v_trace v_typed v_noted v_at v_sort v_start v_value v_vanillaIn f_told f_s) res := by
  refine PureI.of (by decide) (Nat.le_of_ble_eq_true rfl) ?_
  intro p e s m args below meth c Q A X hK hA hret H locs ls hl hP hS
  obtain ⟨hx, hb, hml, hown, hts, hrt, hlk⟩ := id X
  have hl : lv_has ls 2 [(0, .ref p_this), (1, .int x1)] := hl
  unfold f_X5_hot at hf
  refine lv_aload_n hx hb dX5_hot_0 rfl (lv_at hl 0 rfl) ?_
  refine gf_RX5_13 X hK hP 0 rfl rfl dX5_hot_1 ?_
  refine lv_iconst (v := (3 : Int32)) hx hb dX5_hot_4 (by decide) ?_
  refine lv_iload_n hx hb dX5_hot_5 rfl (lv_at hl 1 rfl) ?_
  refine lv_iadd hx hb dX5_hot_6 ?_
  obtain ⟨g_1, hf⟩ := og hf
  refine iald X hK hP 1 rfl _ rfl g_1 dX5_hot_7 ?_
  refine lv_bipush (v := (10 : Int32)) hx hb dX5_hot_8 (by decide) ?_
  refine lv_aload_n hx hb dX5_hot_10 rfl (lv_at hl 0 rfl) ?_
  refine lv_iload_n hx hb dX5_hot_11 rfl (lv_at hl 1 rfl) ?_
  obtain ⟨u_2, hu_2, hf⟩ := ob hf
  refine pV X hK hA hP hS hl.1 (m_X5_whereAll (l := l) E p_this p_text p_told p_draft p_s p_images p_kept p_notes p_held p_soonest v_trace v_typed v_noted v_at v_sort v_start v_value v_vanillaIn f_told f_s x1 u_2 hu_2) kRX5_91 [0, 1, 2] rfl rfl rfl rfl ⟨⟨(Nat.le_of_ble_eq_true rfl), (Nat.le_of_ble_eq_true rfl)⟩, Nat.zero_le _, Nat.zero_le _⟩ rfl rfl (Nat.le_of_ble_eq_true rfl) dX5_hot_12 (fun H locs hP hS => ?_)
  obtain ⟨u_3, hu_3, hf⟩ := ob hf
  refine pS X hK hA hP hS hl.1 (m_X5_ones (l := l) E   u_2 u_3 hu_3) kRX5_94 ⟨⟨(Nat.le_of_ble_eq_true rfl), (Nat.le_of_ble_eq_true rfl)⟩, Nat.zero_le _, Nat.zero_le _⟩ rfl rfl (Nat.le_of_ble_eq_true rfl) dX5_hot_15 (fun H locs hP hS => ?_)
  refine lv_isub hx hb dX5_hot_18 ?_
  refine lv_imul hx hb dX5_hot_19 ?_
  refine lv_bipush (v := (10 : Int32)) hx hb dX5_hot_20 (by decide) ?_
  refine lv_idiv hx hb dX5_hot_22 (by decide) ?_
  obtain rfl := Option.some.inj hf
  exact hret H locs _ ls rfl hP hS dX5_hot_23

abbrev w_X5_oven (E : Ev) (p_this : Nat) (p_text : Nat) (p_told : Nat) (p_draft : Nat) (p_s : Nat) (p_images : Nat) (p_kept : Nat) (p_notes : Nat) (p_held : Nat) (p_soonest : Nat) (v_trace : Int64) (v_typed : Int32) (v_noted : Int32) (v_at : Int32) (v_sort : Int32) (v_start : Int32) (v_value : Int32) (v_vanillaIn : Int32) (f_told : Nat → Int32) (f_s : Nat → Int32) : va_W := [(p_this, .inr (5, [.long v_trace, .ref p_text, .int v_typed, .ref p_told, .ref p_draft, .ref p_s, .ref p_images, .ref p_kept, .ref p_notes, .int v_noted, .int v_at, .int v_sort, .int v_start, .int v_value, .int v_vanillaIn, .ref p_held, .ref p_soonest])), (p_told, .inl (E.2.1, 43, .inl f_told)), (p_s, .inl (E.2.1, 155, .inl f_s))]
set_option maxHeartbeats 4000000 in
set_option maxRecDepth 100000 in
theorem m_X5_oven {l : Launch} (E : Ev) (p_this : Nat) (p_text : Nat) (p_told : Nat) (p_draft : Nat) (p_s : Nat) (p_images : Nat) (p_kept : Nat) (p_notes : Nat) (p_held : Nat) (p_soonest : Nat) (v_trace : Int64) (v_typed : Int32) (v_noted : Int32) (v_at : Int32) (v_sort : Int32) (v_start : Int32) (v_value : Int32) (v_vanillaIn : Int32) (f_told : Nat → Int32) (f_s : Nat → Int32) (x1 : Int32) (x2 : Int32) (res : Int32) (hf : f_X5_oven  f_told f_s x1 x2 = some res) : PureI l E 3 yX5_oven cX5_oven 3 .int [.ref p_this, .int x1, .int x2] (w_X5_oven E p_this p_text p_told p_draft p_s p_images p_kept p_notes p_held p_soonest v_trace v_typed v_noted v_at v_sort v_start v_value v_vanillaIn f_told f_s) res := by
  refine PureI.of (by decide) (Nat.le_of_ble_eq_true rfl) ?_
  intro p e s m args below meth c Q A X hK hA hret H locs ls hl hP hS
  obtain ⟨hx, hb, hml, hown, hts, hrt, hlk⟩ := id X
  have hl : lv_has ls 3 [(0, .ref p_this), (1, .int x1), (2, .int x2)] := hl
  unfold f_X5_oven at hf
  refine lv_aload_n hx hb dX5_oven_0 rfl (lv_at hl 0 rfl) ?_
  refine lv_iload_n hx hb dX5_oven_1 rfl (lv_at hl 1 rfl) ?_
  obtain ⟨u_1, hu_1, hf⟩ := ob hf
  refine pV X hK hA hP hS hl.1 (m_X5_isOven (l := l) E p_this p_text p_told p_draft p_s p_images p_kept p_notes p_held p_soonest v_trace v_typed v_noted v_at v_sort v_start v_value v_vanillaIn f_told x1 u_1 hu_1) kRX5_97 [0, 1] rfl rfl rfl rfl ⟨⟨(Nat.le_of_ble_eq_true rfl), (Nat.le_of_ble_eq_true rfl)⟩, Nat.zero_le _, Nat.zero_le _⟩ rfl rfl (Nat.le_of_ble_eq_true rfl) dX5_oven_2 (fun H locs hP hS => ?_)
  refine lv_if_ne (tgt := 11) hx hb dX5_oven_5 (by decide) (fun c_2 => ?_) (fun c_2 => ?_)
  · replace hf := of c_2 hf
    refine lv_iload_n hx hb dX5_oven_11 rfl (lv_at hl 2 rfl) ?_
    by_cases c_3 : x2 = 0
    · replace hf := ot c_3 hf
      refine lv_tableIn (off := 36) (tgt := 48) hx hb dX5_oven_12 (by rw [c_3]; decide) (by rw [c_3]; decide) (by rw [c_3]; rfl) (by decide) ?_
      refine lv_aload_n hx hb dX5_oven_48 rfl (lv_at hl 0 rfl) ?_
      refine gf_RX5_13 X hK hP 0 rfl rfl dX5_oven_49 ?_
      refine lv_iconst (v := (3 : Int32)) hx hb dX5_oven_52 (by decide) ?_
      refine lv_iload_n hx hb dX5_oven_53 rfl (lv_at hl 1 rfl) ?_
      refine lv_iadd hx hb dX5_oven_54 ?_
      obtain ⟨g_4, hf⟩ := og hf
      refine iald X hK hP 1 rfl _ rfl g_4 dX5_oven_55 ?_
      obtain rfl := Option.some.inj hf
      exact hret H locs _ ls rfl hP hS dX5_oven_56
    · replace hf := of c_3 hf
      by_cases c_5 : x2 = 1
      · replace hf := ot c_5 hf
        refine lv_tableIn (off := 45) (tgt := 57) hx hb dX5_oven_12 (by rw [c_5]; decide) (by rw [c_5]; decide) (by rw [c_5]; rfl) (by decide) ?_
        refine lv_aload_n hx hb dX5_oven_57 rfl (lv_at hl 0 rfl) ?_
        refine gf_RX5_13 X hK hP 0 rfl rfl dX5_oven_58 ?_
        refine lv_bipush (v := (8 : Int32)) hx hb dX5_oven_61 (by decide) ?_
        refine lv_iload_n hx hb dX5_oven_63 rfl (lv_at hl 1 rfl) ?_
        refine lv_iadd hx hb dX5_oven_64 ?_
        obtain ⟨g_6, hf⟩ := og hf
        refine iald X hK hP 1 rfl _ rfl g_6 dX5_oven_65 ?_
        refine lv_bipush (v := (9 : Int32)) hx hb dX5_oven_66 (by decide) ?_
        refine lv_isub hx hb dX5_oven_68 ?_
        obtain rfl := Option.some.inj hf
        exact hret H locs _ ls rfl hP hS dX5_oven_69
      · replace hf := of c_5 hf
        by_cases c_7 : x2 = 2
        · replace hf := ot c_7 hf
          refine lv_tableIn (off := 58) (tgt := 70) hx hb dX5_oven_12 (by rw [c_7]; decide) (by rw [c_7]; decide) (by rw [c_7]; rfl) (by decide) ?_
          refine lv_aload_n hx hb dX5_oven_70 rfl (lv_at hl 0 rfl) ?_
          refine lv_iload_n hx hb dX5_oven_71 rfl (lv_at hl 1 rfl) ?_
          obtain ⟨u_8, hu_8, hf⟩ := ob hf
          refine pV X hK hA hP hS hl.1 (m_X5_whereAll (l := l) E p_this p_text p_told p_draft p_s p_images p_kept p_notes p_held p_soonest v_trace v_typed v_noted v_at v_sort v_start v_value v_vanillaIn f_told f_s x1 u_8 hu_8) kRX5_91 [0, 1, 2] rfl rfl rfl rfl ⟨⟨(Nat.le_of_ble_eq_true rfl), (Nat.le_of_ble_eq_true rfl)⟩, Nat.zero_le _, Nat.zero_le _⟩ rfl rfl (Nat.le_of_ble_eq_true rfl) dX5_oven_72 (fun H locs hP hS => ?_)
          obtain rfl := Option.some.inj hf
          exact hret H locs _ ls rfl hP hS dX5_oven_75
        · replace hf := of c_7 hf
          by_cases c_9 : x2 = 3
          · replace hf := ot c_9 hf
            refine lv_tableIn (off := 64) (tgt := 76) hx hb dX5_oven_12 (by rw [c_9]; decide) (by rw [c_9]; decide) (by rw [c_9]; rfl) (by decide) ?_
            refine lv_aload_n hx hb dX5_oven_76 rfl (lv_at hl 0 rfl) ?_
            refine lv_iload_n hx hb dX5_oven_77 rfl (lv_at hl 1 rfl) ?_
            obtain ⟨u_10, hu_10, hf⟩ := ob hf
            refine pV X hK hA hP hS hl.1 (m_X5_hot (l := l) E p_this p_text p_told p_draft p_s p_images p_kept p_notes p_held p_soonest v_trace v_typed v_noted v_at v_sort v_start v_value v_vanillaIn f_told f_s x1 u_10 hu_10) kRX5_101 [0, 1, 2] rfl rfl rfl rfl ⟨⟨(Nat.le_of_ble_eq_true rfl), (Nat.le_of_ble_eq_true rfl)⟩, Nat.zero_le _, Nat.zero_le _⟩ rfl rfl (Nat.le_of_ble_eq_true rfl) dX5_oven_78 (fun H locs hP hS => ?_)
            obtain rfl := Option.some.inj hf
            exact hret H locs _ ls rfl hP hS dX5_oven_81
          · replace hf := of c_9 hf
            by_cases c_11 : x2 = 4
            · replace hf := ot c_11 hf
              refine lv_tableIn (off := 70) (tgt := 82) hx hb dX5_oven_12 (by rw [c_11]; decide) (by rw [c_11]; decide) (by rw [c_11]; rfl) (by decide) ?_
              refine lv_aload_n hx hb dX5_oven_82 rfl (lv_at hl 0 rfl) ?_
              refine lv_iload_n hx hb dX5_oven_83 rfl (lv_at hl 1 rfl) ?_
              obtain ⟨u_12, hu_12, hf⟩ := ob hf
              refine pV X hK hA hP hS hl.1 (m_X5_isShut (l := l) E p_this p_text p_told p_draft p_s p_images p_kept p_notes p_held p_soonest v_trace v_typed v_noted v_at v_sort v_start v_value v_vanillaIn f_s x1 u_12 hu_12) kRX5_104 [0, 2] rfl rfl rfl rfl ⟨⟨(Nat.le_of_ble_eq_true rfl), (Nat.le_of_ble_eq_true rfl)⟩, Nat.zero_le _, Nat.zero_le _⟩ rfl rfl (Nat.le_of_ble_eq_true rfl) dX5_oven_84 (fun H locs hP hS => ?_)
              refine lv_if_eq (tgt := 94) hx hb dX5_oven_87 (by decide) (fun c_13 => ?_) (fun c_13 => ?_)
              · replace hf := ot c_13 hf
                refine lv_iconst (v := (0 : Int32)) hx hb dX5_oven_94 (by decide) ?_
                obtain rfl := Option.some.inj hf
                exact hret H locs _ ls rfl hP hS dX5_oven_95
              · replace hf := of c_13 hf
                refine lv_iconst (v := (1 : Int32)) hx hb dX5_oven_90 (by decide) ?_
                refine lv_goto (tgt := 95) hx hb dX5_oven_91 (by decide) ?_
                obtain rfl := Option.some.inj hf
                exact hret H locs _ ls rfl hP hS dX5_oven_95
            · replace hf := of c_11 hf
              refine lv_tableOut (tgt := 96) hx hb dX5_oven_12 (by
                  have e_3 := lv_neT c_3 (show (0 : Int32).toInt = 0 by decide)
                  have e_5 := lv_neT c_5 (show (1 : Int32).toInt = 1 by decide)
                  have e_7 := lv_neT c_7 (show (2 : Int32).toInt = 2 by decide)
                  have e_9 := lv_neT c_9 (show (3 : Int32).toInt = 3 by decide)
                  have e_11 := lv_neT c_11 (show (4 : Int32).toInt = 4 by decide)
                  omega) (by decide) ?_
              refine lv_ldc hx hb hown (hts _ q704) dX5_oven_96 ?_
              obtain rfl := Option.some.inj hf
              exact hret H locs _ ls rfl hP hS dX5_oven_98
  · replace hf := ot c_2 hf
    refine lv_ldc hx hb hown (hts _ q704) dX5_oven_8 ?_
    obtain rfl := Option.some.inj hf
    exact hret H locs _ ls rfl hP hS dX5_oven_10

abbrev w_X5_smellOf (E : Ev) (p_this : Nat) (p_text : Nat) (p_told : Nat) (p_draft : Nat) (p_s : Nat) (p_images : Nat) (p_kept : Nat) (p_notes : Nat) (p_held : Nat) (p_soonest : Nat) (v_trace : Int64) (v_typed : Int32) (v_noted : Int32) (v_at : Int32) (v_sort : Int32) (v_start : Int32) (v_value : Int32) (v_vanillaIn : Int32) (f_told : Nat → Int32) (f_s : Nat → Int32) : va_W := [(p_this, .inr (5, [.long v_trace, .ref p_text, .int v_typed, .ref p_told, .ref p_draft, .ref p_s, .ref p_images, .ref p_kept, .ref p_notes, .int v_noted, .int v_at, .int v_sort, .int v_start, .int v_value, .int v_vanillaIn, .ref p_held, .ref p_soonest])), (p_told, .inl (E.2.1, 43, .inl f_told)), (p_s, .inl (E.2.1, 155, .inl f_s))]
set_option maxHeartbeats 4000000 in
set_option maxRecDepth 100000 in
theorem b_X5_smellOf_88 {p : Program} {l : Launch} {e : Env} {s : State} {m : MethodId} {args : Array Value} {below : List Frame} {meth : Method} {c : Code} {Q : State → Prop} {A : Nat → Prop} (E : Ev) (p_this : Nat) (p_text : Nat) (p_told : Nat) (p_draft : Nat) (p_s : Nat) (p_images : Nat) (p_kept : Nat) (p_notes : Nat) (p_held : Nat) (p_soonest : Nat) (v_trace : Int64) (v_typed : Int32) (v_noted : Int32) (v_at : Int32) (v_sort : Int32) (v_start : Int32) (v_value : Int32) (v_vanillaIn : Int32) (f_told : Nat → Int32) (f_s : Nat → Int32) (res : Int32) (X : Cx p s m args meth c cX5_smellOf 6 RX5 (some .int)) (hK : KK E A s s.heap) (hA : ∀ q, s.heap.size ≤ q → A q) (hret : RetI p l e (RM 1) s m args below meth c Q E A cX5_smellOf .int (w_X5_smellOf E p_this p_text p_told p_draft p_s p_images p_kept p_notes p_held p_soonest v_trace v_typed v_noted v_at v_sort v_start v_value v_vanillaIn f_told f_s) res) (K16 : Int32 → Int32 → Int32 → Int32 → Option Int32) (hK16 : ∀ (x1 : Int32) (x2 : Int32) (x3 : Int32) (x4 : Int32), K16 x1 x2 x3 x4 = some res → ∀ (H : Heap) (locs : List Loc) (ls : Array Slot), lv_has ls 6 [(0, .ref p_this), (1, .int x1), (2, .int x2), (3, .int x3), (4, .int x4)] → va_P E.1 classes (w_X5_smellOf E p_this p_text p_told p_draft p_s p_images p_kept p_notes p_held p_soonest v_trace v_typed v_noted v_at v_sort v_start v_value v_vanillaIn f_told f_s) H → va_S A s.heap H locs → W p l e (RM 1) s m args below meth c H locs 0 0 Q (F0 m 16 ls [])) (x1 : Int32) (x2 : Int32) (x4 : Int32) (k0 : Int32) (k1 : Int32) (hf : f_X5_smellOf_88 f_told f_s  K16 x1 x2 x4 k0 k1 = some res) : ∀ (H : Heap) (locs : List Loc) (ls : Array Slot), lv_has ls 6 [(0, .ref p_this), (1, .int x1), (2, .int x2), (4, .int x4)] → va_P E.1 classes (w_X5_smellOf E p_this p_text p_told p_draft p_s p_images p_kept p_notes p_held p_soonest v_trace v_typed v_noted v_at v_sort v_start v_value v_vanillaIn f_told f_s) H → va_S A s.heap H locs → W p l e (RM 1) s m args below meth c H locs 0 0 Q (F0 m 88 ls [.int k0, .int k1]) := by
  obtain ⟨hx, hb, hml, hown, hts, hrt, hlk⟩ := id X
  intro H locs ls hl hP hS
  unfold f_X5_smellOf_88 at hf
  refine lv_iadd hx hb dX5_smellOf_88 ?_
  refine lv_istore_n (lv' := [(3, .int (k1 + k0)), (0, .ref p_this), (1, .int x1), (2, .int x2), (4, .int x4)]) hx hb dX5_smellOf_89 rfl hl (by decide) rfl (fun ls hl => ?_)
  refine lv_iinc (v := (x4 + (1 : Int32))) (lv' := [(4, .int (x4 + (1 : Int32))), (3, .int (k1 + k0)), (0, .ref p_this), (1, .int x1), (2, .int x2)]) hx hb dX5_smellOf_90 hl (k := 4) rfl rfl (by decide) rfl (fun ls hl => ?_)
  refine lv_goto (tgt := 16) hx hb dX5_smellOf_93 (by decide) ?_
  exact hK16 x1 x2 (k1 + k0) (x4 + (1 : Int32)) hf H locs ls (lv_sub hl [2, 3, 4, 1, 0] rfl) hP hS

set_option maxHeartbeats 4000000 in
set_option maxRecDepth 100000 in
theorem b_X5_smellOf_16 {p : Program} {l : Launch} {e : Env} {s : State} {m : MethodId} {args : Array Value} {below : List Frame} {meth : Method} {c : Code} {Q : State → Prop} {A : Nat → Prop} (E : Ev) (p_this : Nat) (p_text : Nat) (p_told : Nat) (p_draft : Nat) (p_s : Nat) (p_images : Nat) (p_kept : Nat) (p_notes : Nat) (p_held : Nat) (p_soonest : Nat) (v_trace : Int64) (v_typed : Int32) (v_noted : Int32) (v_at : Int32) (v_sort : Int32) (v_start : Int32) (v_value : Int32) (v_vanillaIn : Int32) (f_told : Nat → Int32) (f_s : Nat → Int32) (res : Int32) (X : Cx p s m args meth c cX5_smellOf 6 RX5 (some .int)) (hK : KK E A s s.heap) (hA : ∀ q, s.heap.size ≤ q → A q) (hret : RetI p l e (RM 1) s m args below meth c Q E A cX5_smellOf .int (w_X5_smellOf E p_this p_text p_told p_draft p_s p_images p_kept p_notes p_held p_soonest v_trace v_typed v_noted v_at v_sort v_start v_value v_vanillaIn f_told f_s) res)  : ∀ (n : Nat) (x1 : Int32) (x2 : Int32) (x3 : Int32) (x4 : Int32), f_X5_smellOf_16 f_told f_s   n x1 x2 x3 x4 = some res → ∀ (H : Heap) (locs : List Loc) (ls : Array Slot), lv_has ls 6 [(0, .ref p_this), (1, .int x1), (2, .int x2), (3, .int x3), (4, .int x4)] → va_P E.1 classes (w_X5_smellOf E p_this p_text p_told p_draft p_s p_images p_kept p_notes p_held p_soonest v_trace v_typed v_noted v_at v_sort v_start v_value v_vanillaIn f_told f_s) H → va_S A s.heap H locs → W p l e (RM 1) s m args below meth c H locs 0 0 Q (F0 m 16 ls []) := by
  obtain ⟨hx, hb, hml, hown, hts, hrt, hlk⟩ := id X
  intro n
  induction n with
  | zero => intro x1 x2 x3 x4 hf; exact absurd hf (by simp [f_X5_smellOf_16])
  | succ n ih =>
    intro x1 x2 x3 x4 hf H locs ls hl hP hS
    unfold f_X5_smellOf_16 at hf
    refine lv_iload hx hb dX5_smellOf_16 (lv_at hl 4 rfl) ?_
    refine lv_aload_n hx hb dX5_smellOf_18 rfl (lv_at hl 0 rfl) ?_
    refine gf_RX5_13 X hK hP 0 rfl rfl dX5_smellOf_19 ?_
    refine lv_iconst (v := (1 : Int32)) hx hb dX5_smellOf_22 (by decide) ?_
    refine iald X hK hP 1 rfl 1 (by decide) (by decide) dX5_smellOf_23 ?_
    refine lv_icmp_ge (tgt := 96) hx hb dX5_smellOf_24 (by decide) (fun c_2 => ?_) (fun c_2 => ?_)
    · replace hf := ot c_2 hf
      refine lv_iload_n hx hb dX5_smellOf_96 rfl (lv_at hl 3 rfl) ?_
      obtain rfl := Option.some.inj hf
      exact hret H locs _ ls rfl hP hS dX5_smellOf_97
    · replace hf := of c_2 hf
      refine lv_aload_n hx hb dX5_smellOf_27 rfl (lv_at hl 0 rfl) ?_
      refine gf_RX5_13 X hK hP 0 rfl rfl dX5_smellOf_28 ?_
      refine lv_bipush (v := (13 : Int32)) hx hb dX5_smellOf_31 (by decide) ?_
      refine lv_iload_n hx hb dX5_smellOf_33 rfl (lv_at hl 2 rfl) ?_
      refine lv_iadd hx hb dX5_smellOf_34 ?_
      obtain ⟨g_3, hf⟩ := og hf
      refine iald X hK hP 1 rfl _ rfl g_3 dX5_smellOf_35 ?_
      refine lv_aload_n hx hb dX5_smellOf_36 rfl (lv_at hl 0 rfl) ?_
      refine gf_RX5_13 X hK hP 0 rfl rfl dX5_smellOf_37 ?_
      refine lv_bipush (v := (19 : Int32)) hx hb dX5_smellOf_40 (by decide) ?_
      refine lv_iload_n hx hb dX5_smellOf_42 rfl (lv_at hl 2 rfl) ?_
      refine lv_iadd hx hb dX5_smellOf_43 ?_
      obtain ⟨g_4, hf⟩ := og hf
      refine iald X hK hP 1 rfl _ rfl g_4 dX5_smellOf_44 ?_
      refine lv_isub hx hb dX5_smellOf_45 ?_
      refine lv_aload_n hx hb dX5_smellOf_46 rfl (lv_at hl 0 rfl) ?_
      refine gf_RX5_13 X hK hP 0 rfl rfl dX5_smellOf_47 ?_
      refine lv_bipush (v := (13 : Int32)) hx hb dX5_smellOf_50 (by decide) ?_
      refine lv_iload hx hb dX5_smellOf_52 (lv_at hl 4 rfl) ?_
      refine lv_iadd hx hb dX5_smellOf_54 ?_
      obtain ⟨g_5, hf⟩ := og hf
      refine iald X hK hP 1 rfl _ rfl g_5 dX5_smellOf_55 ?_
      refine lv_aload_n hx hb dX5_smellOf_56 rfl (lv_at hl 0 rfl) ?_
      refine gf_RX5_13 X hK hP 0 rfl rfl dX5_smellOf_57 ?_
      refine lv_bipush (v := (19 : Int32)) hx hb dX5_smellOf_60 (by decide) ?_
      refine lv_iload hx hb dX5_smellOf_62 (lv_at hl 4 rfl) ?_
      refine lv_iadd hx hb dX5_smellOf_64 ?_
      obtain ⟨g_6, hf⟩ := og hf
      refine iald X hK hP 1 rfl _ rfl g_6 dX5_smellOf_65 ?_
      refine lv_isub hx hb dX5_smellOf_66 ?_
      refine lv_imul hx hb dX5_smellOf_67 ?_
      refine lv_istore (lv' := [(5, .int (((f_told ((13 : Int32) + x2).toNatClampNeg) - (f_told ((19 : Int32) + x2).toNatClampNeg)) * ((f_told ((13 : Int32) + x4).toNatClampNeg) - (f_told ((19 : Int32) + x4).toNatClampNeg)))), (0, .ref p_this), (1, .int x1), (2, .int x2), (3, .int x3), (4, .int x4)]) hx hb dX5_smellOf_68 hl (by decide) rfl (fun ls hl => ?_)
      refine lv_iload_n hx hb dX5_smellOf_70 rfl (lv_at hl 4 rfl) ?_
      refine lv_aload_n hx hb dX5_smellOf_71 rfl (lv_at hl 1 rfl) ?_
      refine gf_RX5_19 X hK hP 0 rfl rfl dX5_smellOf_72 ?_
      refine lv_iload hx hb dX5_smellOf_75 (lv_at hl 5 rfl) ?_
      obtain ⟨g_7, hf⟩ := og hf
      refine iald X hK hP 2 rfl _ rfl g_7 dX5_smellOf_77 ?_
      refine lv_iload_n hx hb dX5_smellOf_78 rfl (lv_at hl 2 rfl) ?_
      refine lv_icmp_ne (tgt := 87) hx hb dX5_smellOf_79 (by decide) (fun c_8 => ?_) (fun c_8 => ?_)
      · replace hf := of c_8 hf
        refine lv_iconst (v := (0 : Int32)) hx hb dX5_smellOf_87 (by decide) ?_
        exact b_X5_smellOf_88 E p_this p_text p_told p_draft p_s p_images p_kept p_notes p_held p_soonest v_trace v_typed v_noted v_at v_sort v_start v_value v_vanillaIn f_told f_s res X hK hA hret  (f_X5_smellOf_16 f_told f_s   n) ih x1 x2 x4 (0 : Int32) x3 hf H locs ls (lv_sub hl [1, 2, 3, 5] rfl) hP hS
      · replace hf := ot c_8 hf
        refine lv_iload hx hb dX5_smellOf_82 (lv_at hl 0 rfl) ?_
        refine lv_goto (tgt := 88) hx hb dX5_smellOf_84 (by decide) ?_
        exact b_X5_smellOf_88 E p_this p_text p_told p_draft p_s p_images p_kept p_notes p_held p_soonest v_trace v_typed v_noted v_at v_sort v_start v_value v_vanillaIn f_told f_s res X hK hA hret  (f_X5_smellOf_16 f_told f_s   n) ih x1 x2 x4 (((f_told ((13 : Int32) + x2).toNatClampNeg) - (f_told ((19 : Int32) + x2).toNatClampNeg)) * ((f_told ((13 : Int32) + x4).toNatClampNeg) - (f_told ((19 : Int32) + x4).toNatClampNeg))) x3 hf H locs ls (lv_sub hl [1, 2, 3, 5] rfl) hP hS

set_option maxHeartbeats 4000000 in
set_option maxRecDepth 100000 in
theorem m_X5_smellOf {l : Launch} (E : Ev) (p_this : Nat) (p_text : Nat) (p_told : Nat) (p_draft : Nat) (p_s : Nat) (p_images : Nat) (p_kept : Nat) (p_notes : Nat) (p_held : Nat) (p_soonest : Nat) (v_trace : Int64) (v_typed : Int32) (v_noted : Int32) (v_at : Int32) (v_sort : Int32) (v_start : Int32) (v_value : Int32) (v_vanillaIn : Int32) (f_told : Nat → Int32) (f_s : Nat → Int32) (x1 : Int32) (x2 : Int32) (res : Int32) (hf : f_X5_smellOf  f_told f_s x1 x2 = some res) : PureI l E 1 yX5_smellOf cX5_smellOf 6 .int [.ref p_this, .int x1, .int x2] (w_X5_smellOf E p_this p_text p_told p_draft p_s p_images p_kept p_notes p_held p_soonest v_trace v_typed v_noted v_at v_sort v_start v_value v_vanillaIn f_told f_s) res := by
  refine PureI.of (by decide) (Nat.le_of_ble_eq_true rfl) ?_
  intro p e s m args below meth c Q A X hK hA hret H locs ls hl hP hS
  obtain ⟨hx, hb, hml, hown, hts, hrt, hlk⟩ := id X
  have hl : lv_has ls 6 [(0, .ref p_this), (1, .int x1), (2, .int x2)] := hl
  unfold f_X5_smellOf at hf
  refine lv_aload_n hx hb dX5_smellOf_0 rfl (lv_at hl 0 rfl) ?_
  refine gf_RX5_13 X hK hP 0 rfl rfl dX5_smellOf_1 ?_
  refine lv_bipush (v := (8 : Int32)) hx hb dX5_smellOf_4 (by decide) ?_
  refine lv_iload_n hx hb dX5_smellOf_6 rfl (lv_at hl 1 rfl) ?_
  refine lv_iadd hx hb dX5_smellOf_7 ?_
  obtain ⟨g_1, hf⟩ := og hf
  refine iald X hK hP 1 rfl _ rfl g_1 dX5_smellOf_8 ?_
  refine lv_bipush (v := (9 : Int32)) hx hb dX5_smellOf_9 (by decide) ?_
  refine lv_isub hx hb dX5_smellOf_11 ?_
  refine lv_istore_n (lv' := [(3, .int ((f_told ((8 : Int32) + x1).toNatClampNeg) - (9 : Int32))), (0, .ref p_this), (1, .int x1), (2, .int x2)]) hx hb dX5_smellOf_12 rfl hl (by decide) rfl (fun ls hl => ?_)
  refine lv_iconst (v := (0 : Int32)) hx hb dX5_smellOf_13 (by decide) ?_
  refine lv_istore (lv' := [(4, .int (0 : Int32)), (3, .int ((f_told ((8 : Int32) + x1).toNatClampNeg) - (9 : Int32))), (0, .ref p_this), (1, .int x1), (2, .int x2)]) hx hb dX5_smellOf_14 hl (by decide) rfl (fun ls hl => ?_)
  exact b_X5_smellOf_16 E p_this p_text p_told p_draft p_s p_images p_kept p_notes p_held p_soonest v_trace v_typed v_noted v_at v_sort v_start v_value v_vanillaIn f_told f_s res X hK hA hret   FU x1 x2 ((f_told ((8 : Int32) + x1).toNatClampNeg) - (9 : Int32)) (0 : Int32) hf H locs ls (lv_sub hl [2, 3, 4, 1, 0] rfl) hP hS

abbrev w_X5_noseOf (E : Ev) (p_this : Nat) (p_text : Nat) (p_told : Nat) (p_draft : Nat) (p_s : Nat) (p_images : Nat) (p_kept : Nat) (p_notes : Nat) (p_held : Nat) (p_soonest : Nat) (v_trace : Int64) (v_typed : Int32) (v_noted : Int32) (v_at : Int32) (v_sort : Int32) (v_start : Int32) (v_value : Int32) (v_vanillaIn : Int32) (f_told : Nat → Int32) (f_s : Nat → Int32) : va_W := [(p_this, .inr (5, [.long v_trace, .ref p_text, .int v_typed, .ref p_told, .ref p_draft, .ref p_s, .ref p_images, .ref p_kept, .ref p_notes, .int v_noted, .int v_at, .int v_sort, .int v_start, .int v_value, .int v_vanillaIn, .ref p_held, .ref p_soonest])), (p_told, .inl (E.2.1, 43, .inl f_told)), (p_s, .inl (E.2.1, 155, .inl f_s))]
set_option maxHeartbeats 4000000 in
set_option maxRecDepth 100000 in
theorem b_X5_noseOf_63 {p : Program} {l : Launch} {e : Env} {s : State} {m : MethodId} {args : Array Value} {below : List Frame} {meth : Method} {c : Code} {Q : State → Prop} {A : Nat → Prop} (E : Ev) (p_this : Nat) (p_text : Nat) (p_told : Nat) (p_draft : Nat) (p_s : Nat) (p_images : Nat) (p_kept : Nat) (p_notes : Nat) (p_held : Nat) (p_soonest : Nat) (v_trace : Int64) (v_typed : Int32) (v_noted : Int32) (v_at : Int32) (v_sort : Int32) (v_start : Int32) (v_value : Int32) (v_vanillaIn : Int32) (f_told : Nat → Int32) (f_s : Nat → Int32) (res : Int32) (X : Cx p s m args meth c cX5_noseOf 7 RX5 (some .int)) (hK : KK E A s s.heap) (hA : ∀ q, s.heap.size ≤ q → A q) (hret : RetI p l e (RM 2) s m args below meth c Q E A cX5_noseOf .int (w_X5_noseOf E p_this p_text p_told p_draft p_s p_images p_kept p_notes p_held p_soonest v_trace v_typed v_noted v_at v_sort v_start v_value v_vanillaIn f_told f_s) res) (K10 : Int32 → Int32 → Int32 → Int32 → Int32 → Option Int32) (hK10 : ∀ (x1 : Int32) (x2 : Int32) (x3 : Int32) (x4 : Int32) (x5 : Int32), K10 x1 x2 x3 x4 x5 = some res → ∀ (H : Heap) (locs : List Loc) (ls : Array Slot), lv_has ls 7 [(0, .ref p_this), (1, .int x1), (2, .int x2), (3, .int x3), (4, .int x4), (5, .int x5)] → va_P E.1 classes (w_X5_noseOf E p_this p_text p_told p_draft p_s p_images p_kept p_notes p_held p_soonest v_trace v_typed v_noted v_at v_sort v_start v_value v_vanillaIn f_told f_s) H → va_S A s.heap H locs → W p l e (RM 2) s m args below meth c H locs 0 0 Q (F0 m 10 ls [])) (x1 : Int32) (x2 : Int32) (x3 : Int32) (x4 : Int32) (x5 : Int32) (k0 : Int32) (k1 : Int32) (hf : f_X5_noseOf_63 v_vanillaIn f_told f_s  K10 x1 x2 x3 x4 x5 k0 k1 = some res) : ∀ (H : Heap) (locs : List Loc) (ls : Array Slot), lv_has ls 7 [(0, .ref p_this), (1, .int x1), (2, .int x2), (3, .int x3), (4, .int x4), (5, .int x5)] → va_P E.1 classes (w_X5_noseOf E p_this p_text p_told p_draft p_s p_images p_kept p_notes p_held p_soonest v_trace v_typed v_noted v_at v_sort v_start v_value v_vanillaIn f_told f_s) H → va_S A s.heap H locs → W p l e (RM 2) s m args below meth c H locs 0 0 Q (F0 m 63 ls [.int k0, .int k1]) := by
  obtain ⟨hx, hb, hml, hown, hts, hrt, hlk⟩ := id X
  intro H locs ls hl hP hS
  unfold f_X5_noseOf_63 at hf
  refine lv_iadd hx hb dX5_noseOf_63 ?_
  refine lv_istore (lv' := [(6, .int (k1 + k0)), (0, .ref p_this), (1, .int x1), (2, .int x2), (3, .int x3), (4, .int x4), (5, .int x5)]) hx hb dX5_noseOf_64 hl (by decide) rfl (fun ls hl => ?_)
  refine lv_iload_n hx hb dX5_noseOf_66 rfl (lv_at hl 3 rfl) ?_
  refine lv_iload hx hb dX5_noseOf_67 (lv_at hl 6 rfl) ?_
  refine lv_ishr hx hb dX5_noseOf_69 ?_
  refine lv_iconst (v := (1 : Int32)) hx hb dX5_noseOf_70 (by decide) ?_
  refine lv_iand hx hb dX5_noseOf_71 ?_
  refine lv_if_ne (tgt := 89) hx hb dX5_noseOf_72 (by decide) (fun c_1 => ?_) (fun c_1 => ?_)
  · replace hf := of c_1 hf
    refine lv_iinc (v := (x5 + (1 : Int32))) (lv' := [(5, .int (x5 + (1 : Int32))), (6, .int (k1 + k0)), (0, .ref p_this), (1, .int x1), (2, .int x2), (3, .int x3), (4, .int x4)]) hx hb dX5_noseOf_89 hl (k := 6) rfl rfl (by decide) rfl (fun ls hl => ?_)
    refine lv_goto (tgt := 10) hx hb dX5_noseOf_92 (by decide) ?_
    exact hK10 x1 x2 x3 x4 (x5 + (1 : Int32)) hf H locs ls (lv_sub hl [2, 3, 4, 5, 6, 0] rfl) hP hS
  · replace hf := ot c_1 hf
    refine lv_iload hx hb dX5_noseOf_75 (lv_at hl 0 rfl) ?_
    refine lv_iload hx hb dX5_noseOf_77 (lv_at hl 5 rfl) ?_
    refine lv_icmp_le (tgt := 89) hx hb dX5_noseOf_79 (by decide) (fun c_2 => ?_) (fun c_2 => ?_)
    · replace hf := ot c_2 hf
      refine lv_iinc (v := (x5 + (1 : Int32))) (lv' := [(5, .int (x5 + (1 : Int32))), (6, .int (k1 + k0)), (0, .ref p_this), (1, .int x1), (2, .int x2), (3, .int x3), (4, .int x4)]) hx hb dX5_noseOf_89 hl (k := 6) rfl rfl (by decide) rfl (fun ls hl => ?_)
      refine lv_goto (tgt := 10) hx hb dX5_noseOf_92 (by decide) ?_
      exact hK10 x1 x2 x3 x4 (x5 + (1 : Int32)) hf H locs ls (lv_sub hl [2, 3, 4, 5, 6, 0] rfl) hP hS
    · replace hf := of c_2 hf
      refine lv_iload hx hb dX5_noseOf_82 (lv_at hl 6 rfl) ?_
      refine lv_istore_n (lv' := [(3, .int x5), (6, .int (k1 + k0)), (0, .ref p_this), (1, .int x1), (2, .int x2), (4, .int x4), (5, .int x5)]) hx hb dX5_noseOf_84 rfl hl (by decide) rfl (fun ls hl => ?_)
      refine lv_iload hx hb dX5_noseOf_85 (lv_at hl 1 rfl) ?_
      refine lv_istore (lv' := [(4, .int (k1 + k0)), (3, .int x5), (6, .int (k1 + k0)), (0, .ref p_this), (1, .int x1), (2, .int x2), (5, .int x5)]) hx hb dX5_noseOf_87 hl (by decide) rfl (fun ls hl => ?_)
      refine lv_iinc (v := (x5 + (1 : Int32))) (lv' := [(5, .int (x5 + (1 : Int32))), (4, .int (k1 + k0)), (3, .int x5), (6, .int (k1 + k0)), (0, .ref p_this), (1, .int x1), (2, .int x2)]) hx hb dX5_noseOf_89 hl (k := 6) rfl rfl (by decide) rfl (fun ls hl => ?_)
      refine lv_goto (tgt := 10) hx hb dX5_noseOf_92 (by decide) ?_
      exact hK10 x1 x2 x5 (k1 + k0) (x5 + (1 : Int32)) hf H locs ls (lv_sub hl [4, 5, 6, 2, 1, 0] rfl) hP hS

set_option maxHeartbeats 4000000 in
set_option maxRecDepth 100000 in
theorem b_X5_noseOf_10 {p : Program} {l : Launch} {e : Env} {s : State} {m : MethodId} {args : Array Value} {below : List Frame} {meth : Method} {c : Code} {Q : State → Prop} {A : Nat → Prop} (E : Ev) (p_this : Nat) (p_text : Nat) (p_told : Nat) (p_draft : Nat) (p_s : Nat) (p_images : Nat) (p_kept : Nat) (p_notes : Nat) (p_held : Nat) (p_soonest : Nat) (v_trace : Int64) (v_typed : Int32) (v_noted : Int32) (v_at : Int32) (v_sort : Int32) (v_start : Int32) (v_value : Int32) (v_vanillaIn : Int32) (f_told : Nat → Int32) (f_s : Nat → Int32) (res : Int32) (X : Cx p s m args meth c cX5_noseOf 7 RX5 (some .int)) (hK : KK E A s s.heap) (hA : ∀ q, s.heap.size ≤ q → A q) (hret : RetI p l e (RM 2) s m args below meth c Q E A cX5_noseOf .int (w_X5_noseOf E p_this p_text p_told p_draft p_s p_images p_kept p_notes p_held p_soonest v_trace v_typed v_noted v_at v_sort v_start v_value v_vanillaIn f_told f_s) res)  : ∀ (n : Nat) (x1 : Int32) (x2 : Int32) (x3 : Int32) (x4 : Int32) (x5 : Int32), f_X5_noseOf_10 v_vanillaIn f_told f_s   n x1 x2 x3 x4 x5 = some res → ∀ (H : Heap) (locs : List Loc) (ls : Array Slot), lv_has ls 7 [(0, .ref p_this), (1, .int x1), (2, .int x2), (3, .int x3), (4, .int x4), (5, .int x5)] → va_P E.1 classes (w_X5_noseOf E p_this p_text p_told p_draft p_s p_images p_kept p_notes p_held p_soonest v_trace v_typed v_noted v_at v_sort v_start v_value v_vanillaIn f_told f_s) H → va_S A s.heap H locs → W p l e (RM 2) s m args below meth c H locs 0 0 Q (F0 m 10 ls []) := by
  obtain ⟨hx, hb, hml, hown, hts, hrt, hlk⟩ := id X
  intro n
  induction n with
  | zero => intro x1 x2 x3 x4 x5 hf; exact absurd hf (by simp [f_X5_noseOf_10])
  | succ n ih =>
    intro x1 x2 x3 x4 x5 hf H locs ls hl hP hS
    unfold f_X5_noseOf_10 at hf
    refine lv_iload hx hb dX5_noseOf_10 (lv_at hl 5 rfl) ?_
    refine lv_aload_n hx hb dX5_noseOf_12 rfl (lv_at hl 0 rfl) ?_
    refine gf_RX5_13 X hK hP 0 rfl rfl dX5_noseOf_13 ?_
    refine lv_iconst (v := (0 : Int32)) hx hb dX5_noseOf_16 (by decide) ?_
    refine iald X hK hP 1 rfl 0 (by decide) (by decide) dX5_noseOf_17 ?_
    refine lv_icmp_ge (tgt := 95) hx hb dX5_noseOf_18 (by decide) (fun c_2 => ?_) (fun c_2 => ?_)
    · replace hf := ot c_2 hf
      refine lv_iload_n hx hb dX5_noseOf_95 rfl (lv_at hl 3 rfl) ?_
      obtain rfl := Option.some.inj hf
      exact hret H locs _ ls rfl hP hS dX5_noseOf_96
    · replace hf := of c_2 hf
      refine lv_aload_n hx hb dX5_noseOf_21 rfl (lv_at hl 0 rfl) ?_
      refine lv_iload hx hb dX5_noseOf_22 (lv_at hl 5 rfl) ?_
      refine lv_iload_n hx hb dX5_noseOf_24 rfl (lv_at hl 1 rfl) ?_
      obtain ⟨u_3, hu_3, hf⟩ := ob hf
      refine pV X hK hA hP hS hl.1 (m_X5_smellOf (l := l) E p_this p_text p_told p_draft p_s p_images p_kept p_notes p_held p_soonest v_trace v_typed v_noted v_at v_sort v_start v_value v_vanillaIn f_told f_s x5 x1 u_3 hu_3) kRX5_107 [0, 1, 2] rfl rfl rfl rfl ⟨⟨(Nat.le_of_ble_eq_true rfl), (Nat.le_of_ble_eq_true rfl)⟩, Nat.zero_le _, Nat.zero_le _⟩ rfl rfl (Nat.le_of_ble_eq_true rfl) dX5_noseOf_25 (fun H locs hP hS => ?_)
      refine lv_iload hx hb dX5_noseOf_28 (lv_at hl 5 rfl) ?_
      refine lv_aload_n hx hb dX5_noseOf_30 rfl (lv_at hl 0 rfl) ?_
      refine gf_RX5_32 X hK hP 0 rfl rfl dX5_noseOf_31 ?_
      refine lv_icmp_ne (tgt := 62) hx hb dX5_noseOf_34 (by decide) (fun c_4 => ?_) (fun c_4 => ?_)
      · replace hf := of c_4 hf
        refine lv_iconst (v := (0 : Int32)) hx hb dX5_noseOf_62 (by decide) ?_
        exact b_X5_noseOf_63 E p_this p_text p_told p_draft p_s p_images p_kept p_notes p_held p_soonest v_trace v_typed v_noted v_at v_sort v_start v_value v_vanillaIn f_told f_s res X hK hA hret  (f_X5_noseOf_10 v_vanillaIn f_told f_s   n) ih x1 x2 x3 x4 x5 (0 : Int32) u_3 hf H locs ls (lv_sub hl [0, 1, 2, 3, 4, 5] rfl) hP hS
      · replace hf := ot c_4 hf
        refine lv_bipush (v := (9 : Int32)) hx hb dX5_noseOf_37 (by decide) ?_
        refine lv_aload_n hx hb dX5_noseOf_39 rfl (lv_at hl 0 rfl) ?_
        refine gf_RX5_13 X hK hP 0 rfl rfl dX5_noseOf_40 ?_
        refine lv_bipush (v := (13 : Int32)) hx hb dX5_noseOf_43 (by decide) ?_
        refine lv_iload_n hx hb dX5_noseOf_45 rfl (lv_at hl 1 rfl) ?_
        refine lv_iadd hx hb dX5_noseOf_46 ?_
        obtain ⟨g_5, hf⟩ := og hf
        refine iald X hK hP 1 rfl _ rfl g_5 dX5_noseOf_47 ?_
        refine lv_aload_n hx hb dX5_noseOf_48 rfl (lv_at hl 0 rfl) ?_
        refine gf_RX5_13 X hK hP 0 rfl rfl dX5_noseOf_49 ?_
        refine lv_bipush (v := (19 : Int32)) hx hb dX5_noseOf_52 (by decide) ?_
        refine lv_iload_n hx hb dX5_noseOf_54 rfl (lv_at hl 1 rfl) ?_
        refine lv_iadd hx hb dX5_noseOf_55 ?_
        obtain ⟨g_6, hf⟩ := og hf
        refine iald X hK hP 1 rfl _ rfl g_6 dX5_noseOf_56 ?_
        refine lv_isub hx hb dX5_noseOf_57 ?_
        refine lv_imul hx hb dX5_noseOf_58 ?_
        refine lv_goto (tgt := 63) hx hb dX5_noseOf_59 (by decide) ?_
        exact b_X5_noseOf_63 E p_this p_text p_told p_draft p_s p_images p_kept p_notes p_held p_soonest v_trace v_typed v_noted v_at v_sort v_start v_value v_vanillaIn f_told f_s res X hK hA hret  (f_X5_noseOf_10 v_vanillaIn f_told f_s   n) ih x1 x2 x3 x4 x5 ((9 : Int32) * ((f_told ((13 : Int32) + x1).toNatClampNeg) - (f_told ((19 : Int32) + x1).toNatClampNeg))) u_3 hf H locs ls (lv_sub hl [0, 1, 2, 3, 4, 5] rfl) hP hS

set_option maxHeartbeats 4000000 in
set_option maxRecDepth 100000 in
theorem m_X5_noseOf {l : Launch} (E : Ev) (p_this : Nat) (p_text : Nat) (p_told : Nat) (p_draft : Nat) (p_s : Nat) (p_images : Nat) (p_kept : Nat) (p_notes : Nat) (p_held : Nat) (p_soonest : Nat) (v_trace : Int64) (v_typed : Int32) (v_noted : Int32) (v_at : Int32) (v_sort : Int32) (v_start : Int32) (v_value : Int32) (v_vanillaIn : Int32) (f_told : Nat → Int32) (f_s : Nat → Int32) (x1 : Int32) (x2 : Int32) (res : Int32) (hf : f_X5_noseOf  v_vanillaIn f_told f_s x1 x2 = some res) : PureI l E 2 yX5_noseOf cX5_noseOf 7 .int [.ref p_this, .int x1, .int x2] (w_X5_noseOf E p_this p_text p_told p_draft p_s p_images p_kept p_notes p_held p_soonest v_trace v_typed v_noted v_at v_sort v_start v_value v_vanillaIn f_told f_s) res := by
  refine PureI.of (by decide) (Nat.le_of_ble_eq_true rfl) ?_
  intro p e s m args below meth c Q A X hK hA hret H locs ls hl hP hS
  obtain ⟨hx, hb, hml, hown, hts, hrt, hlk⟩ := id X
  have hl : lv_has ls 7 [(0, .ref p_this), (1, .int x1), (2, .int x2)] := hl
  unfold f_X5_noseOf at hf
  refine lv_bipush (v := (-9 : Int32)) hx hb dX5_noseOf_0 (by decide) ?_
  refine lv_istore_n (lv' := [(3, .int (-9 : Int32)), (0, .ref p_this), (1, .int x1), (2, .int x2)]) hx hb dX5_noseOf_2 rfl hl (by decide) rfl (fun ls hl => ?_)
  refine lv_ldc hx hb hown (hts _ q704) dX5_noseOf_3 ?_
  refine lv_istore (lv' := [(4, .int (-1000000 : Int32)), (3, .int (-9 : Int32)), (0, .ref p_this), (1, .int x1), (2, .int x2)]) hx hb dX5_noseOf_5 hl (by decide) rfl (fun ls hl => ?_)
  refine lv_iconst (v := (0 : Int32)) hx hb dX5_noseOf_7 (by decide) ?_
  refine lv_istore (lv' := [(5, .int (0 : Int32)), (4, .int (-1000000 : Int32)), (3, .int (-9 : Int32)), (0, .ref p_this), (1, .int x1), (2, .int x2)]) hx hb dX5_noseOf_8 hl (by decide) rfl (fun ls hl => ?_)
  exact b_X5_noseOf_10 E p_this p_text p_told p_draft p_s p_images p_kept p_notes p_held p_soonest v_trace v_typed v_noted v_at v_sort v_start v_value v_vanillaIn f_told f_s res X hK hA hret   FU x1 x2 (-9 : Int32) (-1000000 : Int32) (0 : Int32) hf H locs ls (lv_sub hl [3, 4, 5, 2, 1, 0] rfl) hP hS

abbrev w_X5_isOut (E : Ev) (p_this : Nat) (p_text : Nat) (p_told : Nat) (p_draft : Nat) (p_s : Nat) (p_images : Nat) (p_kept : Nat) (p_notes : Nat) (p_held : Nat) (p_soonest : Nat) (v_trace : Int64) (v_typed : Int32) (v_noted : Int32) (v_at : Int32) (v_sort : Int32) (v_start : Int32) (v_value : Int32) (v_vanillaIn : Int32) (f_s : Nat → Int32) : va_W := [(p_this, .inr (5, [.long v_trace, .ref p_text, .int v_typed, .ref p_told, .ref p_draft, .ref p_s, .ref p_images, .ref p_kept, .ref p_notes, .int v_noted, .int v_at, .int v_sort, .int v_start, .int v_value, .int v_vanillaIn, .ref p_held, .ref p_soonest])), (p_s, .inl (E.2.1, 155, .inl f_s))]
set_option maxHeartbeats 4000000 in
set_option maxRecDepth 100000 in
theorem m_X5_isOut {l : Launch} (E : Ev) (p_this : Nat) (p_text : Nat) (p_told : Nat) (p_draft : Nat) (p_s : Nat) (p_images : Nat) (p_kept : Nat) (p_notes : Nat) (p_held : Nat) (p_soonest : Nat) (v_trace : Int64) (v_typed : Int32) (v_noted : Int32) (v_at : Int32) (v_sort : Int32) (v_start : Int32) (v_value : Int32) (v_vanillaIn : Int32) (f_s : Nat → Int32) (x1 : Int32) (res : Int32) (hf : f_X5_isOut  f_s x1 = some res) : PureI l E 1 yX5_isOut cX5_isOut 2 .boolean [.ref p_this, .int x1] (w_X5_isOut E p_this p_text p_told p_draft p_s p_images p_kept p_notes p_held p_soonest v_trace v_typed v_noted v_at v_sort v_start v_value v_vanillaIn f_s) res := by
  refine PureI.of (by decide) (Nat.le_of_ble_eq_true rfl) ?_
  intro p e s m args below meth c Q A X hK hA hret H locs ls hl hP hS
  obtain ⟨hx, hb, hml, hown, hts, hrt, hlk⟩ := id X
  have hl : lv_has ls 2 [(0, .ref p_this), (1, .int x1)] := hl
  unfold f_X5_isOut at hf
  refine lv_aload_n hx hb dX5_isOut_0 rfl (lv_at hl 0 rfl) ?_
  refine gf_RX5_19 X hK hP 0 rfl rfl dX5_isOut_1 ?_
  refine lv_iload_n hx hb dX5_isOut_4 rfl (lv_at hl 1 rfl) ?_
  obtain ⟨g_1, hf⟩ := og hf
  refine iald X hK hP 1 rfl _ rfl g_1 dX5_isOut_5 ?_
  refine lv_bipush (v := (-9 : Int32)) hx hb dX5_isOut_6 (by decide) ?_
  refine lv_icmp_ne (tgt := 15) hx hb dX5_isOut_8 (by decide) (fun c_2 => ?_) (fun c_2 => ?_)
  · replace hf := of c_2 hf
    refine lv_iconst (v := (0 : Int32)) hx hb dX5_isOut_15 (by decide) ?_
    obtain rfl := Option.some.inj hf
    exact hret H locs _ ls nar0 hP hS dX5_isOut_16
  · replace hf := ot c_2 hf
    refine lv_iconst (v := (1 : Int32)) hx hb dX5_isOut_11 (by decide) ?_
    refine lv_goto (tgt := 16) hx hb dX5_isOut_12 (by decide) ?_
    obtain rfl := Option.some.inj hf
    exact hret H locs _ ls nar1 hP hS dX5_isOut_16

abbrev w_X5_dough (E : Ev) (p_this : Nat) (p_text : Nat) (p_told : Nat) (p_draft : Nat) (p_s : Nat) (p_images : Nat) (p_kept : Nat) (p_notes : Nat) (p_held : Nat) (p_soonest : Nat) (v_trace : Int64) (v_typed : Int32) (v_noted : Int32) (v_at : Int32) (v_sort : Int32) (v_start : Int32) (v_value : Int32) (v_vanillaIn : Int32) (f_told : Nat → Int32) (f_s : Nat → Int32) : va_W := [(p_this, .inr (5, [.long v_trace, .ref p_text, .int v_typed, .ref p_told, .ref p_draft, .ref p_s, .ref p_images, .ref p_kept, .ref p_notes, .int v_noted, .int v_at, .int v_sort, .int v_start, .int v_value, .int v_vanillaIn, .ref p_held, .ref p_soonest])), (p_told, .inl (E.2.1, 43, .inl f_told)), (p_s, .inl (E.2.1, 155, .inl f_s))]
set_option maxHeartbeats 4000000 in
set_option maxRecDepth 100000 in
theorem m_X5_dough {l : Launch} (E : Ev) (p_this : Nat) (p_text : Nat) (p_told : Nat) (p_draft : Nat) (p_s : Nat) (p_images : Nat) (p_kept : Nat) (p_notes : Nat) (p_held : Nat) (p_soonest : Nat) (v_trace : Int64) (v_typed : Int32) (v_noted : Int32) (v_at : Int32) (v_sort : Int32) (v_start : Int32) (v_value : Int32) (v_vanillaIn : Int32) (f_told : Nat → Int32) (f_s : Nat → Int32) (x1 : Int32) (x2 : Int32) (res : Int32) (hf : f_X5_dough  v_vanillaIn f_told f_s x1 x2 = some res) : PureI l E 3 yX5_dough cX5_dough 3 .int [.ref p_this, .int x1, .int x2] (w_X5_dough E p_this p_text p_told p_draft p_s p_images p_kept p_notes p_held p_soonest v_trace v_typed v_noted v_at v_sort v_start v_value v_vanillaIn f_told f_s) res := by
  refine PureI.of (by decide) (Nat.le_of_ble_eq_true rfl) ?_
  intro p e s m args below meth c Q A X hK hA hret H locs ls hl hP hS
  obtain ⟨hx, hb, hml, hown, hts, hrt, hlk⟩ := id X
  have hl : lv_has ls 3 [(0, .ref p_this), (1, .int x1), (2, .int x2)] := hl
  unfold f_X5_dough at hf
  refine lv_aload_n hx hb dX5_dough_0 rfl (lv_at hl 0 rfl) ?_
  refine lv_iload_n hx hb dX5_dough_1 rfl (lv_at hl 1 rfl) ?_
  obtain ⟨u_1, hu_1, hf⟩ := ob hf
  refine pV X hK hA hP hS hl.1 (m_X5_isDough (l := l) E p_this p_text p_told p_draft p_s p_images p_kept p_notes p_held p_soonest v_trace v_typed v_noted v_at v_sort v_start v_value v_vanillaIn f_told x1 u_1 hu_1) kRX5_111 [0, 1] rfl rfl rfl rfl ⟨⟨(Nat.le_of_ble_eq_true rfl), (Nat.le_of_ble_eq_true rfl)⟩, Nat.zero_le _, Nat.zero_le _⟩ rfl rfl (Nat.le_of_ble_eq_true rfl) dX5_dough_2 (fun H locs hP hS => ?_)
  refine lv_if_ne (tgt := 10) hx hb dX5_dough_5 (by decide) (fun c_2 => ?_) (fun c_2 => ?_)
  · replace hf := of c_2 hf
    refine lv_iload_n hx hb dX5_dough_10 rfl (lv_at hl 2 rfl) ?_
    by_cases c_3 : x2 = 0
    · replace hf := ot c_3 hf
      refine lv_tableIn (off := 45) (tgt := 56) hx hb dX5_dough_11 (by rw [c_3]; decide) (by rw [c_3]; decide) (by rw [c_3]; rfl) (by decide) ?_
      refine lv_aload_n hx hb dX5_dough_56 rfl (lv_at hl 0 rfl) ?_
      refine gf_RX5_13 X hK hP 0 rfl rfl dX5_dough_57 ?_
      refine lv_bipush (v := (13 : Int32)) hx hb dX5_dough_60 (by decide) ?_
      refine lv_iload_n hx hb dX5_dough_62 rfl (lv_at hl 1 rfl) ?_
      refine lv_iadd hx hb dX5_dough_63 ?_
      obtain ⟨g_4, hf⟩ := og hf
      refine iald X hK hP 1 rfl _ rfl g_4 dX5_dough_64 ?_
      obtain rfl := Option.some.inj hf
      exact hret H locs _ ls rfl hP hS dX5_dough_65
    · replace hf := of c_3 hf
      by_cases c_5 : x2 = 1
      · replace hf := ot c_5 hf
        refine lv_tableIn (off := 55) (tgt := 66) hx hb dX5_dough_11 (by rw [c_5]; decide) (by rw [c_5]; decide) (by rw [c_5]; rfl) (by decide) ?_
        refine lv_aload_n hx hb dX5_dough_66 rfl (lv_at hl 0 rfl) ?_
        refine gf_RX5_13 X hK hP 0 rfl rfl dX5_dough_67 ?_
        refine lv_bipush (v := (19 : Int32)) hx hb dX5_dough_70 (by decide) ?_
        refine lv_iload_n hx hb dX5_dough_72 rfl (lv_at hl 1 rfl) ?_
        refine lv_iadd hx hb dX5_dough_73 ?_
        obtain ⟨g_6, hf⟩ := og hf
        refine iald X hK hP 1 rfl _ rfl g_6 dX5_dough_74 ?_
        obtain rfl := Option.some.inj hf
        exact hret H locs _ ls rfl hP hS dX5_dough_75
      · replace hf := of c_5 hf
        by_cases c_7 : x2 = 2
        · replace hf := ot c_7 hf
          refine lv_tableIn (off := 65) (tgt := 76) hx hb dX5_dough_11 (by rw [c_7]; decide) (by rw [c_7]; decide) (by rw [c_7]; rfl) (by decide) ?_
          refine lv_aload_n hx hb dX5_dough_76 rfl (lv_at hl 0 rfl) ?_
          refine gf_RX5_13 X hK hP 0 rfl rfl dX5_dough_77 ?_
          refine lv_bipush (v := (25 : Int32)) hx hb dX5_dough_80 (by decide) ?_
          refine lv_iload_n hx hb dX5_dough_82 rfl (lv_at hl 1 rfl) ?_
          refine lv_iadd hx hb dX5_dough_83 ?_
          obtain ⟨g_8, hf⟩ := og hf
          refine iald X hK hP 1 rfl _ rfl g_8 dX5_dough_84 ?_
          obtain rfl := Option.some.inj hf
          exact hret H locs _ ls rfl hP hS dX5_dough_85
        · replace hf := of c_7 hf
          by_cases c_9 : x2 = 3
          · replace hf := ot c_9 hf
            refine lv_tableIn (off := 75) (tgt := 86) hx hb dX5_dough_11 (by rw [c_9]; decide) (by rw [c_9]; decide) (by rw [c_9]; rfl) (by decide) ?_
            refine lv_aload_n hx hb dX5_dough_86 rfl (lv_at hl 0 rfl) ?_
            refine gf_RX5_13 X hK hP 0 rfl rfl dX5_dough_87 ?_
            refine lv_bipush (v := (31 : Int32)) hx hb dX5_dough_90 (by decide) ?_
            refine lv_iload_n hx hb dX5_dough_92 rfl (lv_at hl 1 rfl) ?_
            refine lv_iadd hx hb dX5_dough_93 ?_
            obtain ⟨g_10, hf⟩ := og hf
            refine iald X hK hP 1 rfl _ rfl g_10 dX5_dough_94 ?_
            obtain rfl := Option.some.inj hf
            exact hret H locs _ ls rfl hP hS dX5_dough_95
          · replace hf := of c_9 hf
            by_cases c_11 : x2 = 4
            · replace hf := ot c_11 hf
              refine lv_tableIn (off := 85) (tgt := 96) hx hb dX5_dough_11 (by rw [c_11]; decide) (by rw [c_11]; decide) (by rw [c_11]; rfl) (by decide) ?_
              refine lv_aload_n hx hb dX5_dough_96 rfl (lv_at hl 0 rfl) ?_
              refine gf_RX5_13 X hK hP 0 rfl rfl dX5_dough_97 ?_
              refine lv_bipush (v := (37 : Int32)) hx hb dX5_dough_100 (by decide) ?_
              refine lv_iload_n hx hb dX5_dough_102 rfl (lv_at hl 1 rfl) ?_
              refine lv_iadd hx hb dX5_dough_103 ?_
              obtain ⟨g_12, hf⟩ := og hf
              refine iald X hK hP 1 rfl _ rfl g_12 dX5_dough_104 ?_
              obtain rfl := Option.some.inj hf
              exact hret H locs _ ls rfl hP hS dX5_dough_105
            · replace hf := of c_11 hf
              by_cases c_13 : x2 = 5
              · replace hf := ot c_13 hf
                refine lv_tableIn (off := 95) (tgt := 106) hx hb dX5_dough_11 (by rw [c_13]; decide) (by rw [c_13]; decide) (by rw [c_13]; rfl) (by decide) ?_
                refine lv_aload_n hx hb dX5_dough_106 rfl (lv_at hl 0 rfl) ?_
                refine gf_RX5_19 X hK hP 0 rfl rfl dX5_dough_107 ?_
                refine lv_iload_n hx hb dX5_dough_110 rfl (lv_at hl 1 rfl) ?_
                obtain ⟨g_14, hf⟩ := og hf
                refine iald X hK hP 2 rfl _ rfl g_14 dX5_dough_111 ?_
                obtain rfl := Option.some.inj hf
                exact hret H locs _ ls rfl hP hS dX5_dough_112
              · replace hf := of c_13 hf
                by_cases c_15 : x2 = 6
                · replace hf := ot c_15 hf
                  refine lv_tableIn (off := 102) (tgt := 113) hx hb dX5_dough_11 (by rw [c_15]; decide) (by rw [c_15]; decide) (by rw [c_15]; rfl) (by decide) ?_
                  refine lv_aload_n hx hb dX5_dough_113 rfl (lv_at hl 0 rfl) ?_
                  refine gf_RX5_19 X hK hP 0 rfl rfl dX5_dough_114 ?_
                  refine lv_bipush (v := (6 : Int32)) hx hb dX5_dough_117 (by decide) ?_
                  refine lv_iload_n hx hb dX5_dough_119 rfl (lv_at hl 1 rfl) ?_
                  refine lv_iadd hx hb dX5_dough_120 ?_
                  obtain ⟨g_16, hf⟩ := og hf
                  refine iald X hK hP 2 rfl _ rfl g_16 dX5_dough_121 ?_
                  obtain rfl := Option.some.inj hf
                  exact hret H locs _ ls rfl hP hS dX5_dough_122
                · replace hf := of c_15 hf
                  by_cases c_17 : x2 = 7
                  · replace hf := ot c_17 hf
                    refine lv_tableIn (off := 112) (tgt := 123) hx hb dX5_dough_11 (by rw [c_17]; decide) (by rw [c_17]; decide) (by rw [c_17]; rfl) (by decide) ?_
                    refine lv_aload_n hx hb dX5_dough_123 rfl (lv_at hl 0 rfl) ?_
                    refine lv_iload_n hx hb dX5_dough_124 rfl (lv_at hl 1 rfl) ?_
                    obtain ⟨u_18, hu_18, hf⟩ := ob hf
                    refine pV X hK hA hP hS hl.1 (m_X5_isOut (l := l) E p_this p_text p_told p_draft p_s p_images p_kept p_notes p_held p_soonest v_trace v_typed v_noted v_at v_sort v_start v_value v_vanillaIn f_s x1 u_18 hu_18) kRX5_114 [0, 2] rfl rfl rfl rfl ⟨⟨(Nat.le_of_ble_eq_true rfl), (Nat.le_of_ble_eq_true rfl)⟩, Nat.zero_le _, Nat.zero_le _⟩ rfl rfl (Nat.le_of_ble_eq_true rfl) dX5_dough_125 (fun H locs hP hS => ?_)
                    refine lv_if_eq (tgt := 146) hx hb dX5_dough_128 (by decide) (fun c_19 => ?_) (fun c_19 => ?_)
                    · replace hf := ot c_19 hf
                      refine lv_bipush (v := (-9 : Int32)) hx hb dX5_dough_146 (by decide) ?_
                      obtain rfl := Option.some.inj hf
                      exact hret H locs _ ls rfl hP hS dX5_dough_148
                    · replace hf := of c_19 hf
                      refine lv_aload_n hx hb dX5_dough_131 rfl (lv_at hl 0 rfl) ?_
                      refine lv_iload_n hx hb dX5_dough_132 rfl (lv_at hl 1 rfl) ?_
                      refine lv_aload_n hx hb dX5_dough_133 rfl (lv_at hl 0 rfl) ?_
                      refine gf_RX5_19 X hK hP 0 rfl rfl dX5_dough_134 ?_
                      refine lv_bipush (v := (12 : Int32)) hx hb dX5_dough_137 (by decide) ?_
                      refine iald X hK hP 2 rfl 12 (by decide) (by decide) dX5_dough_139 ?_
                      obtain ⟨u_21, hu_21, hf⟩ := ob hf
                      refine pV X hK hA hP hS hl.1 (m_X5_noseOf (l := l) E p_this p_text p_told p_draft p_s p_images p_kept p_notes p_held p_soonest v_trace v_typed v_noted v_at v_sort v_start v_value v_vanillaIn f_told f_s x1 (f_s 12) u_21 hu_21) kRX5_117 [0, 1, 2] rfl rfl rfl rfl ⟨⟨(Nat.le_of_ble_eq_true rfl), (Nat.le_of_ble_eq_true rfl)⟩, Nat.zero_le _, Nat.zero_le _⟩ rfl rfl (Nat.le_of_ble_eq_true rfl) dX5_dough_140 (fun H locs hP hS => ?_)
                      refine lv_goto (tgt := 148) hx hb dX5_dough_143 (by decide) ?_
                      obtain rfl := Option.some.inj hf
                      exact hret H locs _ ls rfl hP hS dX5_dough_148
                  · replace hf := of c_17 hf
                    refine lv_tableOut (tgt := 149) hx hb dX5_dough_11 (by
                        have e_3 := lv_neT c_3 (show (0 : Int32).toInt = 0 by decide)
                        have e_5 := lv_neT c_5 (show (1 : Int32).toInt = 1 by decide)
                        have e_7 := lv_neT c_7 (show (2 : Int32).toInt = 2 by decide)
                        have e_9 := lv_neT c_9 (show (3 : Int32).toInt = 3 by decide)
                        have e_11 := lv_neT c_11 (show (4 : Int32).toInt = 4 by decide)
                        have e_13 := lv_neT c_13 (show (5 : Int32).toInt = 5 by decide)
                        have e_15 := lv_neT c_15 (show (6 : Int32).toInt = 6 by decide)
                        have e_17 := lv_neT c_17 (show (7 : Int32).toInt = 7 by decide)
                        omega) (by decide) ?_
                    refine lv_iconst (v := (-1 : Int32)) hx hb dX5_dough_149 (by decide) ?_
                    obtain rfl := Option.some.inj hf
                    exact hret H locs _ ls rfl hP hS dX5_dough_150
  · replace hf := ot c_2 hf
    refine lv_iconst (v := (-1 : Int32)) hx hb dX5_dough_8 (by decide) ?_
    obtain rfl := Option.some.inj hf
    exact hret H locs _ ls rfl hP hS dX5_dough_9

abbrev w_X5_smell (E : Ev) (p_this : Nat) (p_text : Nat) (p_told : Nat) (p_draft : Nat) (p_s : Nat) (p_images : Nat) (p_kept : Nat) (p_notes : Nat) (p_held : Nat) (p_soonest : Nat) (v_trace : Int64) (v_typed : Int32) (v_noted : Int32) (v_at : Int32) (v_sort : Int32) (v_start : Int32) (v_value : Int32) (v_vanillaIn : Int32) (f_told : Nat → Int32) (f_s : Nat → Int32) : va_W := [(p_this, .inr (5, [.long v_trace, .ref p_text, .int v_typed, .ref p_told, .ref p_draft, .ref p_s, .ref p_images, .ref p_kept, .ref p_notes, .int v_noted, .int v_at, .int v_sort, .int v_start, .int v_value, .int v_vanillaIn, .ref p_held, .ref p_soonest])), (p_told, .inl (E.2.1, 43, .inl f_told)), (p_s, .inl (E.2.1, 155, .inl f_s))]
set_option maxHeartbeats 4000000 in
set_option maxRecDepth 100000 in
theorem m_X5_smell {l : Launch} (E : Ev) (p_this : Nat) (p_text : Nat) (p_told : Nat) (p_draft : Nat) (p_s : Nat) (p_images : Nat) (p_kept : Nat) (p_notes : Nat) (p_held : Nat) (p_soonest : Nat) (v_trace : Int64) (v_typed : Int32) (v_noted : Int32) (v_at : Int32) (v_sort : Int32) (v_start : Int32) (v_value : Int32) (v_vanillaIn : Int32) (f_told : Nat → Int32) (f_s : Nat → Int32) (x1 : Int32) (x2 : Int32) (res : Int32) (hf : f_X5_smell  f_told f_s x1 x2 = some res) : PureI l E 3 yX5_smell cX5_smell 3 .int [.ref p_this, .int x1, .int x2] (w_X5_smell E p_this p_text p_told p_draft p_s p_images p_kept p_notes p_held p_soonest v_trace v_typed v_noted v_at v_sort v_start v_value v_vanillaIn f_told f_s) res := by
  refine PureI.of (by decide) (Nat.le_of_ble_eq_true rfl) ?_
  intro p e s m args below meth c Q A X hK hA hret H locs ls hl hP hS
  obtain ⟨hx, hb, hml, hown, hts, hrt, hlk⟩ := id X
  have hl : lv_has ls 3 [(0, .ref p_this), (1, .int x1), (2, .int x2)] := hl
  unfold f_X5_smell at hf
  refine lv_aload_n hx hb dX5_smell_0 rfl (lv_at hl 0 rfl) ?_
  refine lv_iload_n hx hb dX5_smell_1 rfl (lv_at hl 1 rfl) ?_
  obtain ⟨u_1, hu_1, hf⟩ := ob hf
  refine pV X hK hA hP hS hl.1 (m_X5_isOven (l := l) E p_this p_text p_told p_draft p_s p_images p_kept p_notes p_held p_soonest v_trace v_typed v_noted v_at v_sort v_start v_value v_vanillaIn f_told x1 u_1 hu_1) kRX5_97 [0, 1] rfl rfl rfl rfl ⟨⟨(Nat.le_of_ble_eq_true rfl), (Nat.le_of_ble_eq_true rfl)⟩, Nat.zero_le _, Nat.zero_le _⟩ rfl rfl (Nat.le_of_ble_eq_true rfl) dX5_smell_2 (fun H locs hP hS => ?_)
  refine lv_if_eq (tgt := 25) hx hb dX5_smell_5 (by decide) (fun c_2 => ?_) (fun c_2 => ?_)
  · replace hf := ot c_2 hf
    refine lv_ldc hx hb hown (hts _ q704) dX5_smell_25 ?_
    obtain rfl := Option.some.inj hf
    exact hret H locs _ ls rfl hP hS dX5_smell_27
  · replace hf := of c_2 hf
    refine lv_aload_n hx hb dX5_smell_8 rfl (lv_at hl 0 rfl) ?_
    refine lv_iload_n hx hb dX5_smell_9 rfl (lv_at hl 2 rfl) ?_
    obtain ⟨u_3, hu_3, hf⟩ := ob hf
    refine pV X hK hA hP hS hl.1 (m_X5_isDough (l := l) E p_this p_text p_told p_draft p_s p_images p_kept p_notes p_held p_soonest v_trace v_typed v_noted v_at v_sort v_start v_value v_vanillaIn f_told x2 u_3 hu_3) kRX5_111 [0, 1] rfl rfl rfl rfl ⟨⟨(Nat.le_of_ble_eq_true rfl), (Nat.le_of_ble_eq_true rfl)⟩, Nat.zero_le _, Nat.zero_le _⟩ rfl rfl (Nat.le_of_ble_eq_true rfl) dX5_smell_10 (fun H locs hP hS => ?_)
    refine lv_if_eq (tgt := 25) hx hb dX5_smell_13 (by decide) (fun c_4 => ?_) (fun c_4 => ?_)
    · replace hf := ot c_4 hf
      refine lv_ldc hx hb hown (hts _ q704) dX5_smell_25 ?_
      obtain rfl := Option.some.inj hf
      exact hret H locs _ ls rfl hP hS dX5_smell_27
    · replace hf := of c_4 hf
      refine lv_aload_n hx hb dX5_smell_16 rfl (lv_at hl 0 rfl) ?_
      refine lv_iload_n hx hb dX5_smell_17 rfl (lv_at hl 1 rfl) ?_
      refine lv_iload_n hx hb dX5_smell_18 rfl (lv_at hl 2 rfl) ?_
      obtain ⟨u_5, hu_5, hf⟩ := ob hf
      refine pV X hK hA hP hS hl.1 (m_X5_smellOf (l := l) E p_this p_text p_told p_draft p_s p_images p_kept p_notes p_held p_soonest v_trace v_typed v_noted v_at v_sort v_start v_value v_vanillaIn f_told f_s x1 x2 u_5 hu_5) kRX5_107 [0, 1, 2] rfl rfl rfl rfl ⟨⟨(Nat.le_of_ble_eq_true rfl), (Nat.le_of_ble_eq_true rfl)⟩, Nat.zero_le _, Nat.zero_le _⟩ rfl rfl (Nat.le_of_ble_eq_true rfl) dX5_smell_19 (fun H locs hP hS => ?_)
      refine lv_goto (tgt := 27) hx hb dX5_smell_22 (by decide) ?_
      obtain rfl := Option.some.inj hf
      exact hret H locs _ ls rfl hP hS dX5_smell_27

abbrev w_X5_keeps (E : Ev) (p_this : Nat) (p_text : Nat) (p_told : Nat) (p_draft : Nat) (p_s : Nat) (p_images : Nat) (p_kept : Nat) (p_notes : Nat) (p_held : Nat) (p_soonest : Nat) (v_trace : Int64) (v_typed : Int32) (v_noted : Int32) (v_at : Int32) (v_sort : Int32) (v_start : Int32) (v_value : Int32) (v_vanillaIn : Int32) (f_s : Nat → Int32) : va_W := [(p_this, .inr (5, [.long v_trace, .ref p_text, .int v_typed, .ref p_told, .ref p_draft, .ref p_s, .ref p_images, .ref p_kept, .ref p_notes, .int v_noted, .int v_at, .int v_sort, .int v_start, .int v_value, .int v_vanillaIn, .ref p_held, .ref p_soonest])), (p_s, .inl (E.2.1, 155, .inl f_s))]
set_option maxHeartbeats 4000000 in
set_option maxRecDepth 100000 in
theorem b_X5_keeps_70 {p : Program} {l : Launch} {e : Env} {s : State} {m : MethodId} {args : Array Value} {below : List Frame} {meth : Method} {c : Code} {Q : State → Prop} {A : Nat → Prop} (E : Ev) (p_this : Nat) (p_text : Nat) (p_told : Nat) (p_draft : Nat) (p_s : Nat) (p_images : Nat) (p_kept : Nat) (p_notes : Nat) (p_held : Nat) (p_soonest : Nat) (v_trace : Int64) (v_typed : Int32) (v_noted : Int32) (v_at : Int32) (v_sort : Int32) (v_start : Int32) (v_value : Int32) (v_vanillaIn : Int32) (res : (Nat → Int32)) (X : Cx p s m args meth c cX5_keeps 3 RX5 none) (hK : KK E A s s.heap) (hA : ∀ q, s.heap.size ≤ q → A q) (hret : RetV p l e (RM 1) s m args below meth c Q E A cX5_keeps (w_X5_keeps E p_this p_text p_told p_draft p_s p_images p_kept p_notes p_held p_soonest v_trace v_typed v_noted v_at v_sort v_start v_value v_vanillaIn res))  : ∀ (n : Nat) (f_s : Nat → Int32) (x1 : Int32) (x2 : Int32), f_X5_keeps_70    n f_s x1 x2 = some res → ∀ (H : Heap) (locs : List Loc) (ls : Array Slot), lv_has ls 3 [(0, .ref p_this), (1, .int x1), (2, .int x2)] → va_P E.1 classes (w_X5_keeps E p_this p_text p_told p_draft p_s p_images p_kept p_notes p_held p_soonest v_trace v_typed v_noted v_at v_sort v_start v_value v_vanillaIn f_s) H → va_D A (w_X5_keeps E p_this p_text p_told p_draft p_s p_images p_kept p_notes p_held p_soonest v_trace v_typed v_noted v_at v_sort v_start v_value v_vanillaIn f_s) → va_S A s.heap H locs → W p l e (RM 1) s m args below meth c H locs 0 0 Q (F0 m 70 ls []) := by
  obtain ⟨hx, hb, hml, hown, hts, hrt, hlk⟩ := id X
  intro n
  induction n with
  | zero => intro f_s x1 x2 hf; exact absurd hf (by simp [f_X5_keeps_70])
  | succ n ih =>
    intro f_s x1 x2 hf H locs ls hl hP hD hS
    unfold f_X5_keeps_70 at hf
    refine lv_iload_n hx hb dX5_keeps_70 rfl (lv_at hl 2 rfl) ?_
    refine lv_bipush (v := (14 : Int32)) hx hb dX5_keeps_71 (by decide) ?_
    refine lv_icmp_ge (tgt := 96) hx hb dX5_keeps_73 (by decide) (fun c_1 => ?_) (fun c_1 => ?_)
    · replace hf := ot c_1 hf
      refine lv_aload_n hx hb dX5_keeps_96 rfl (lv_at hl 0 rfl) ?_
      refine gf_RX5_19 X hK hP 0 rfl rfl dX5_keeps_97 ?_
      refine lv_bipush (v := (14 : Int32)) hx hb dX5_keeps_100 (by decide) ?_
      refine lv_dup2_11 hx hb dX5_keeps_102 rfl rfl ?_
      refine iald X hK hP 1 rfl 14 (by decide) (by decide) dX5_keeps_103 ?_
      refine lv_iconst (v := (1 : Int32)) hx hb dX5_keeps_104 (by decide) ?_
      refine lv_iadd hx hb dX5_keeps_105 ?_
      refine iast X hK hP hD hS 1 rfl 14 (by decide) (by decide) dX5_keeps_106 (fun H locs hP hD hS => ?_)
      have hP : va_P E.1 classes (w_X5_keeps E p_this p_text p_told p_draft p_s p_images p_kept p_notes p_held p_soonest v_trace v_typed v_noted v_at v_sort v_start v_value v_vanillaIn (upd f_s 14 ((f_s 14) + (1 : Int32)))) H := hP
      have hD : va_D A (w_X5_keeps E p_this p_text p_told p_draft p_s p_images p_kept p_notes p_held p_soonest v_trace v_typed v_noted v_at v_sort v_start v_value v_vanillaIn (upd f_s 14 ((f_s 14) + (1 : Int32)))) := hD
      obtain rfl := Option.some.inj hf
      exact hret H locs _ ls hP hS dX5_keeps_107
    · replace hf := of c_1 hf
      refine lv_aload_n hx hb dX5_keeps_76 rfl (lv_at hl 0 rfl) ?_
      refine gf_RX5_19 X hK hP 0 rfl rfl dX5_keeps_77 ?_
      refine lv_iload_n hx hb dX5_keeps_80 rfl (lv_at hl 1 rfl) ?_
      refine lv_iload_n hx hb dX5_keeps_81 rfl (lv_at hl 2 rfl) ?_
      refine lv_iadd hx hb dX5_keeps_82 ?_
      refine lv_aload_n hx hb dX5_keeps_83 rfl (lv_at hl 0 rfl) ?_
      refine gf_RX5_19 X hK hP 0 rfl rfl dX5_keeps_84 ?_
      refine lv_iload_n hx hb dX5_keeps_87 rfl (lv_at hl 2 rfl) ?_
      obtain ⟨g_4, hf⟩ := og hf
      refine iald X hK hP 1 rfl _ rfl g_4 dX5_keeps_88 ?_
      obtain ⟨g_5, hf⟩ := og hf
      refine iast X hK hP hD hS 1 rfl _ rfl g_5 dX5_keeps_89 (fun H locs hP hD hS => ?_)
      have hP : va_P E.1 classes (w_X5_keeps E p_this p_text p_told p_draft p_s p_images p_kept p_notes p_held p_soonest v_trace v_typed v_noted v_at v_sort v_start v_value v_vanillaIn (upd f_s (x1 + x2).toNatClampNeg (f_s x2.toNatClampNeg))) H := hP
      have hD : va_D A (w_X5_keeps E p_this p_text p_told p_draft p_s p_images p_kept p_notes p_held p_soonest v_trace v_typed v_noted v_at v_sort v_start v_value v_vanillaIn (upd f_s (x1 + x2).toNatClampNeg (f_s x2.toNatClampNeg))) := hD
      refine lv_iinc (v := (x2 + (1 : Int32))) (lv' := [(2, .int (x2 + (1 : Int32))), (0, .ref p_this), (1, .int x1)]) hx hb dX5_keeps_90 hl (k := 2) rfl rfl (by decide) rfl (fun ls hl => ?_)
      refine lv_goto (tgt := 70) hx hb dX5_keeps_93 (by decide) ?_
      exact ih (upd f_s (x1 + x2).toNatClampNeg (f_s x2.toNatClampNeg)) x1 (x2 + (1 : Int32)) hf H locs ls (lv_sub hl [1, 2, 0] rfl) hP hD hS

set_option maxHeartbeats 4000000 in
set_option maxRecDepth 100000 in
theorem b_X5_keeps_54 {p : Program} {l : Launch} {e : Env} {s : State} {m : MethodId} {args : Array Value} {below : List Frame} {meth : Method} {c : Code} {Q : State → Prop} {A : Nat → Prop} (E : Ev) (p_this : Nat) (p_text : Nat) (p_told : Nat) (p_draft : Nat) (p_s : Nat) (p_images : Nat) (p_kept : Nat) (p_notes : Nat) (p_held : Nat) (p_soonest : Nat) (v_trace : Int64) (v_typed : Int32) (v_noted : Int32) (v_at : Int32) (v_sort : Int32) (v_start : Int32) (v_value : Int32) (v_vanillaIn : Int32) (res : (Nat → Int32)) (X : Cx p s m args meth c cX5_keeps 3 RX5 none) (hK : KK E A s s.heap) (hA : ∀ q, s.heap.size ≤ q → A q) (hret : RetV p l e (RM 1) s m args below meth c Q E A cX5_keeps (w_X5_keeps E p_this p_text p_told p_draft p_s p_images p_kept p_notes p_held p_soonest v_trace v_typed v_noted v_at v_sort v_start v_value v_vanillaIn res))  (f_s : Nat → Int32) (hf : f_X5_keeps_54    f_s = some res) : ∀ (H : Heap) (locs : List Loc) (ls : Array Slot), lv_has ls 3 [(0, .ref p_this)] → va_P E.1 classes (w_X5_keeps E p_this p_text p_told p_draft p_s p_images p_kept p_notes p_held p_soonest v_trace v_typed v_noted v_at v_sort v_start v_value v_vanillaIn f_s) H → va_D A (w_X5_keeps E p_this p_text p_told p_draft p_s p_images p_kept p_notes p_held p_soonest v_trace v_typed v_noted v_at v_sort v_start v_value v_vanillaIn f_s) → va_S A s.heap H locs → W p l e (RM 1) s m args below meth c H locs 0 0 Q (F0 m 54 ls []) := by
  obtain ⟨hx, hb, hml, hown, hts, hrt, hlk⟩ := id X
  intro H locs ls hl hP hD hS
  unfold f_X5_keeps_54 at hf
  refine lv_bipush (v := (15 : Int32)) hx hb dX5_keeps_54 (by decide) ?_
  refine lv_bipush (v := (14 : Int32)) hx hb dX5_keeps_56 (by decide) ?_
  refine lv_aload_n hx hb dX5_keeps_58 rfl (lv_at hl 0 rfl) ?_
  refine gf_RX5_19 X hK hP 0 rfl rfl dX5_keeps_59 ?_
  refine lv_bipush (v := (14 : Int32)) hx hb dX5_keeps_62 (by decide) ?_
  refine iald X hK hP 1 rfl 14 (by decide) (by decide) dX5_keeps_64 ?_
  refine lv_imul hx hb dX5_keeps_65 ?_
  refine lv_iadd hx hb dX5_keeps_66 ?_
  refine lv_istore_n (lv' := [(1, .int ((15 : Int32) + ((14 : Int32) * (f_s 14)))), (0, .ref p_this)]) hx hb dX5_keeps_67 rfl hl (by decide) rfl (fun ls hl => ?_)
  refine lv_iconst (v := (0 : Int32)) hx hb dX5_keeps_68 (by decide) ?_
  refine lv_istore_n (lv' := [(2, .int (0 : Int32)), (1, .int ((15 : Int32) + ((14 : Int32) * (f_s 14)))), (0, .ref p_this)]) hx hb dX5_keeps_69 rfl hl (by decide) rfl (fun ls hl => ?_)
  exact b_X5_keeps_70 E p_this p_text p_told p_draft p_s p_images p_kept p_notes p_held p_soonest v_trace v_typed v_noted v_at v_sort v_start v_value v_vanillaIn res X hK hA hret   FU f_s ((15 : Int32) + ((14 : Int32) * (f_s 14))) (0 : Int32) hf H locs ls (lv_sub hl [2, 1, 0] rfl) hP hD hS

set_option maxHeartbeats 4000000 in
set_option maxRecDepth 100000 in
theorem b_X5_keeps_15 {p : Program} {l : Launch} {e : Env} {s : State} {m : MethodId} {args : Array Value} {below : List Frame} {meth : Method} {c : Code} {Q : State → Prop} {A : Nat → Prop} (E : Ev) (p_this : Nat) (p_text : Nat) (p_told : Nat) (p_draft : Nat) (p_s : Nat) (p_images : Nat) (p_kept : Nat) (p_notes : Nat) (p_held : Nat) (p_soonest : Nat) (v_trace : Int64) (v_typed : Int32) (v_noted : Int32) (v_at : Int32) (v_sort : Int32) (v_start : Int32) (v_value : Int32) (v_vanillaIn : Int32) (res : (Nat → Int32)) (X : Cx p s m args meth c cX5_keeps 3 RX5 none) (hK : KK E A s s.heap) (hA : ∀ q, s.heap.size ≤ q → A q) (hret : RetV p l e (RM 1) s m args below meth c Q E A cX5_keeps (w_X5_keeps E p_this p_text p_told p_draft p_s p_images p_kept p_notes p_held p_soonest v_trace v_typed v_noted v_at v_sort v_start v_value v_vanillaIn res))  : ∀ (n : Nat) (f_s : Nat → Int32) (x1 : Int32), f_X5_keeps_15    n f_s x1 = some res → ∀ (H : Heap) (locs : List Loc) (ls : Array Slot), lv_has ls 3 [(0, .ref p_this), (1, .int x1)] → va_P E.1 classes (w_X5_keeps E p_this p_text p_told p_draft p_s p_images p_kept p_notes p_held p_soonest v_trace v_typed v_noted v_at v_sort v_start v_value v_vanillaIn f_s) H → va_D A (w_X5_keeps E p_this p_text p_told p_draft p_s p_images p_kept p_notes p_held p_soonest v_trace v_typed v_noted v_at v_sort v_start v_value v_vanillaIn f_s) → va_S A s.heap H locs → W p l e (RM 1) s m args below meth c H locs 0 0 Q (F0 m 15 ls []) := by
  obtain ⟨hx, hb, hml, hown, hts, hrt, hlk⟩ := id X
  intro n
  induction n with
  | zero => intro f_s x1 hf; exact absurd hf (by simp [f_X5_keeps_15])
  | succ n ih =>
    intro f_s x1 hf H locs ls hl hP hD hS
    unfold f_X5_keeps_15 at hf
    refine lv_iload_n hx hb dX5_keeps_15 rfl (lv_at hl 1 rfl) ?_
    refine lv_sipush (v := (141 : Int32)) hx hb dX5_keeps_16 (by decide) ?_
    refine lv_icmp_ge (tgt := 43) hx hb dX5_keeps_19 (by decide) (fun c_1 => ?_) (fun c_1 => ?_)
    · replace hf := ot c_1 hf
      refine lv_aload_n hx hb dX5_keeps_43 rfl (lv_at hl 0 rfl) ?_
      refine gf_RX5_19 X hK hP 0 rfl rfl dX5_keeps_44 ?_
      refine lv_bipush (v := (14 : Int32)) hx hb dX5_keeps_47 (by decide) ?_
      refine lv_dup2_11 hx hb dX5_keeps_49 rfl rfl ?_
      refine iald X hK hP 1 rfl 14 (by decide) (by decide) dX5_keeps_50 ?_
      refine lv_iconst (v := (1 : Int32)) hx hb dX5_keeps_51 (by decide) ?_
      refine lv_isub hx hb dX5_keeps_52 ?_
      refine iast X hK hP hD hS 1 rfl 14 (by decide) (by decide) dX5_keeps_53 (fun H locs hP hD hS => ?_)
      have hP : va_P E.1 classes (w_X5_keeps E p_this p_text p_told p_draft p_s p_images p_kept p_notes p_held p_soonest v_trace v_typed v_noted v_at v_sort v_start v_value v_vanillaIn (upd f_s 14 ((f_s 14) - (1 : Int32)))) H := hP
      have hD : va_D A (w_X5_keeps E p_this p_text p_told p_draft p_s p_images p_kept p_notes p_held p_soonest v_trace v_typed v_noted v_at v_sort v_start v_value v_vanillaIn (upd f_s 14 ((f_s 14) - (1 : Int32)))) := hD
      exact b_X5_keeps_54 E p_this p_text p_told p_draft p_s p_images p_kept p_notes p_held p_soonest v_trace v_typed v_noted v_at v_sort v_start v_value v_vanillaIn res X hK hA hret   (upd f_s 14 ((f_s 14) - (1 : Int32))) hf H locs ls (lv_sub hl [0] rfl) hP hD hS
    · replace hf := of c_1 hf
      refine lv_aload_n hx hb dX5_keeps_22 rfl (lv_at hl 0 rfl) ?_
      refine gf_RX5_19 X hK hP 0 rfl rfl dX5_keeps_23 ?_
      refine lv_iload_n hx hb dX5_keeps_26 rfl (lv_at hl 1 rfl) ?_
      refine lv_aload_n hx hb dX5_keeps_27 rfl (lv_at hl 0 rfl) ?_
      refine gf_RX5_19 X hK hP 0 rfl rfl dX5_keeps_28 ?_
      refine lv_iload_n hx hb dX5_keeps_31 rfl (lv_at hl 1 rfl) ?_
      refine lv_bipush (v := (14 : Int32)) hx hb dX5_keeps_32 (by decide) ?_
      refine lv_iadd hx hb dX5_keeps_34 ?_
      obtain ⟨g_4, hf⟩ := og hf
      refine iald X hK hP 1 rfl _ rfl g_4 dX5_keeps_35 ?_
      obtain ⟨g_5, hf⟩ := og hf
      refine iast X hK hP hD hS 1 rfl _ rfl g_5 dX5_keeps_36 (fun H locs hP hD hS => ?_)
      have hP : va_P E.1 classes (w_X5_keeps E p_this p_text p_told p_draft p_s p_images p_kept p_notes p_held p_soonest v_trace v_typed v_noted v_at v_sort v_start v_value v_vanillaIn (upd f_s x1.toNatClampNeg (f_s (x1 + (14 : Int32)).toNatClampNeg))) H := hP
      have hD : va_D A (w_X5_keeps E p_this p_text p_told p_draft p_s p_images p_kept p_notes p_held p_soonest v_trace v_typed v_noted v_at v_sort v_start v_value v_vanillaIn (upd f_s x1.toNatClampNeg (f_s (x1 + (14 : Int32)).toNatClampNeg))) := hD
      refine lv_iinc (v := (x1 + (1 : Int32))) (lv' := [(1, .int (x1 + (1 : Int32))), (0, .ref p_this)]) hx hb dX5_keeps_37 hl (k := 1) rfl rfl (by decide) rfl (fun ls hl => ?_)
      refine lv_goto (tgt := 15) hx hb dX5_keeps_40 (by decide) ?_
      exact ih (upd f_s x1.toNatClampNeg (f_s (x1 + (14 : Int32)).toNatClampNeg)) (x1 + (1 : Int32)) hf H locs ls (lv_sub hl [1, 0] rfl) hP hD hS

set_option maxHeartbeats 4000000 in
set_option maxRecDepth 100000 in
theorem m_X5_keeps {l : Launch} (E : Ev) (p_this : Nat) (p_text : Nat) (p_told : Nat) (p_draft : Nat) (p_s : Nat) (p_images : Nat) (p_kept : Nat) (p_notes : Nat) (p_held : Nat) (p_soonest : Nat) (v_trace : Int64) (v_typed : Int32) (v_noted : Int32) (v_at : Int32) (v_sort : Int32) (v_start : Int32) (v_value : Int32) (v_vanillaIn : Int32) (f_s : Nat → Int32)  (res : (Nat → Int32)) (hf : f_X5_keeps  f_s  = some res) : MutV l E 1 yX5_keeps cX5_keeps 3 [.ref p_this] (w_X5_keeps E p_this p_text p_told p_draft p_s p_images p_kept p_notes p_held p_soonest v_trace v_typed v_noted v_at v_sort v_start v_value v_vanillaIn f_s) (w_X5_keeps E p_this p_text p_told p_draft p_s p_images p_kept p_notes p_held p_soonest v_trace v_typed v_noted v_at v_sort v_start v_value v_vanillaIn res) := by
  refine MutV.of (by decide) (Nat.le_of_ble_eq_true rfl) ?_
  intro p e s m args below meth c Q A X hK hA hret H locs ls hl hP hD hS
  obtain ⟨hx, hb, hml, hown, hts, hrt, hlk⟩ := id X
  have hl : lv_has ls 3 [(0, .ref p_this)] := hl
  unfold f_X5_keeps at hf
  refine lv_aload_n hx hb dX5_keeps_0 rfl (lv_at hl 0 rfl) ?_
  refine gf_RX5_19 X hK hP 0 rfl rfl dX5_keeps_1 ?_
  refine lv_bipush (v := (14 : Int32)) hx hb dX5_keeps_4 (by decide) ?_
  refine iald X hK hP 1 rfl 14 (by decide) (by decide) dX5_keeps_6 ?_
  refine lv_bipush (v := (10 : Int32)) hx hb dX5_keeps_7 (by decide) ?_
  refine lv_icmp_ne (tgt := 54) hx hb dX5_keeps_9 (by decide) (fun c_2 => ?_) (fun c_2 => ?_)
  · replace hf := of c_2 hf
    exact b_X5_keeps_54 E p_this p_text p_told p_draft p_s p_images p_kept p_notes p_held p_soonest v_trace v_typed v_noted v_at v_sort v_start v_value v_vanillaIn res X hK hA hret   f_s hf H locs ls (lv_sub hl [0] rfl) hP hD hS
  · replace hf := ot c_2 hf
    refine lv_bipush (v := (15 : Int32)) hx hb dX5_keeps_12 (by decide) ?_
    refine lv_istore_n (lv' := [(1, .int (15 : Int32)), (0, .ref p_this)]) hx hb dX5_keeps_14 rfl hl (by decide) rfl (fun ls hl => ?_)
    exact b_X5_keeps_15 E p_this p_text p_told p_draft p_s p_images p_kept p_notes p_held p_soonest v_trace v_typed v_noted v_at v_sort v_start v_value v_vanillaIn res X hK hA hret   FU f_s (15 : Int32) hf H locs ls (lv_sub hl [1, 0] rfl) hP hD hS

abbrev w_X5_mayGo (E : Ev) (p_this : Nat) (p_text : Nat) (p_told : Nat) (p_draft : Nat) (p_s : Nat) (p_images : Nat) (p_kept : Nat) (p_notes : Nat) (p_held : Nat) (p_soonest : Nat) (v_trace : Int64) (v_typed : Int32) (v_noted : Int32) (v_at : Int32) (v_sort : Int32) (v_start : Int32) (v_value : Int32) (v_vanillaIn : Int32) (f_s : Nat → Int32) (f_told : Nat → Int32) : va_W := [(p_this, .inr (5, [.long v_trace, .ref p_text, .int v_typed, .ref p_told, .ref p_draft, .ref p_s, .ref p_images, .ref p_kept, .ref p_notes, .int v_noted, .int v_at, .int v_sort, .int v_start, .int v_value, .int v_vanillaIn, .ref p_held, .ref p_soonest])), (p_s, .inl (E.2.1, 155, .inl f_s)), (p_told, .inl (E.2.1, 43, .inl f_told))]
set_option maxHeartbeats 4000000 in
set_option maxRecDepth 100000 in
theorem m_X5_mayGo {l : Launch} (E : Ev) (p_this : Nat) (p_text : Nat) (p_told : Nat) (p_draft : Nat) (p_s : Nat) (p_images : Nat) (p_kept : Nat) (p_notes : Nat) (p_held : Nat) (p_soonest : Nat) (v_trace : Int64) (v_typed : Int32) (v_noted : Int32) (v_at : Int32) (v_sort : Int32) (v_start : Int32) (v_value : Int32) (v_vanillaIn : Int32) (f_s : Nat → Int32) (f_told : Nat → Int32) (x1 : Int32) (res : Int32) (hf : f_X5_mayGo  f_s f_told x1 = some res) : PureI l E 2 yX5_mayGo cX5_mayGo 2 .boolean [.ref p_this, .int x1] (w_X5_mayGo E p_this p_text p_told p_draft p_s p_images p_kept p_notes p_held p_soonest v_trace v_typed v_noted v_at v_sort v_start v_value v_vanillaIn f_s f_told) res := by
  refine PureI.of (by decide) (Nat.le_of_ble_eq_true rfl) ?_
  intro p e s m args below meth c Q A X hK hA hret H locs ls hl hP hS
  obtain ⟨hx, hb, hml, hown, hts, hrt, hlk⟩ := id X
  have hl : lv_has ls 2 [(0, .ref p_this), (1, .int x1)] := hl
  unfold f_X5_mayGo at hf
  refine lv_aload_n hx hb dX5_mayGo_0 rfl (lv_at hl 0 rfl) ?_
  refine lv_iload_n hx hb dX5_mayGo_1 rfl (lv_at hl 1 rfl) ?_
  obtain ⟨u_1, hu_1, hf⟩ := ob hf
  refine pV X hK hA hP hS hl.1 (m_X5_isOut (l := l) E p_this p_text p_told p_draft p_s p_images p_kept p_notes p_held p_soonest v_trace v_typed v_noted v_at v_sort v_start v_value v_vanillaIn f_s x1 u_1 hu_1) kRX5_114 [0, 1] rfl rfl rfl rfl ⟨⟨(Nat.le_of_ble_eq_true rfl), (Nat.le_of_ble_eq_true rfl)⟩, Nat.zero_le _, Nat.zero_le _⟩ rfl rfl (Nat.le_of_ble_eq_true rfl) dX5_mayGo_2 (fun H locs hP hS => ?_)
  refine lv_if_eq (tgt := 43) hx hb dX5_mayGo_5 (by decide) (fun c_2 => ?_) (fun c_2 => ?_)
  · replace hf := ot c_2 hf
    refine lv_iconst (v := (0 : Int32)) hx hb dX5_mayGo_43 (by decide) ?_
    obtain rfl := Option.some.inj hf
    exact hret H locs _ ls nar0 hP hS dX5_mayGo_44
  · replace hf := of c_2 hf
    refine lv_aload_n hx hb dX5_mayGo_8 rfl (lv_at hl 0 rfl) ?_
    refine gf_RX5_19 X hK hP 0 rfl rfl dX5_mayGo_9 ?_
    refine lv_bipush (v := (13 : Int32)) hx hb dX5_mayGo_12 (by decide) ?_
    refine iald X hK hP 1 rfl 13 (by decide) (by decide) dX5_mayGo_14 ?_
    refine lv_aload_n hx hb dX5_mayGo_15 rfl (lv_at hl 0 rfl) ?_
    refine gf_RX5_13 X hK hP 0 rfl rfl dX5_mayGo_16 ?_
    refine lv_bipush (v := (31 : Int32)) hx hb dX5_mayGo_19 (by decide) ?_
    refine lv_iload_n hx hb dX5_mayGo_21 rfl (lv_at hl 1 rfl) ?_
    refine lv_iadd hx hb dX5_mayGo_22 ?_
    obtain ⟨g_4, hf⟩ := og hf
    refine iald X hK hP 2 rfl _ rfl g_4 dX5_mayGo_23 ?_
    refine lv_aload_n hx hb dX5_mayGo_24 rfl (lv_at hl 0 rfl) ?_
    refine gf_RX5_13 X hK hP 0 rfl rfl dX5_mayGo_25 ?_
    refine lv_bipush (v := (37 : Int32)) hx hb dX5_mayGo_28 (by decide) ?_
    refine lv_iload_n hx hb dX5_mayGo_30 rfl (lv_at hl 1 rfl) ?_
    refine lv_iadd hx hb dX5_mayGo_31 ?_
    obtain ⟨g_5, hf⟩ := og hf
    refine iald X hK hP 2 rfl _ rfl g_5 dX5_mayGo_32 ?_
    obtain ⟨u_6, hu_6, hf⟩ := ob hf
    refine pS X hK hA hP hS hl.1 (m_X5_in (l := l) E   (f_s 13) (f_told ((31 : Int32) + x1).toNatClampNeg) (f_told ((37 : Int32) + x1).toNatClampNeg) u_6 hu_6) kRX5_49 ⟨⟨(Nat.le_of_ble_eq_true rfl), (Nat.le_of_ble_eq_true rfl)⟩, Nat.zero_le _, Nat.zero_le _⟩ rfl rfl (Nat.le_of_ble_eq_true rfl) dX5_mayGo_33 (fun H locs hP hS => ?_)
    refine lv_if_eq (tgt := 43) hx hb dX5_mayGo_36 (by decide) (fun c_7 => ?_) (fun c_7 => ?_)
    · replace hf := ot c_7 hf
      refine lv_iconst (v := (0 : Int32)) hx hb dX5_mayGo_43 (by decide) ?_
      obtain rfl := Option.some.inj hf
      exact hret H locs _ ls nar0 hP hS dX5_mayGo_44
    · replace hf := of c_7 hf
      refine lv_iconst (v := (1 : Int32)) hx hb dX5_mayGo_39 (by decide) ?_
      refine lv_goto (tgt := 44) hx hb dX5_mayGo_40 (by decide) ?_
      obtain rfl := Option.some.inj hf
      exact hret H locs _ ls nar1 hP hS dX5_mayGo_44

