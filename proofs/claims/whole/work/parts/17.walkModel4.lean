abbrev w_X5_soonestOf (E : Ev) (p_this : Nat) (p_text : Nat) (p_told : Nat) (p_draft : Nat) (p_s : Nat) (p_images : Nat) (p_kept : Nat) (p_notes : Nat) (p_held : Nat) (p_soonest : Nat) (v_trace : Int64) (v_typed : Int32) (v_noted : Int32) (v_at : Int32) (v_sort : Int32) (v_start : Int32) (v_value : Int32) (v_vanillaIn : Int32) (f_told : Nat → Int32) (f_soonest : Nat → Int32) : va_W := [(p_this, .inr (5, [.long v_trace, .ref p_text, .int v_typed, .ref p_told, .ref p_draft, .ref p_s, .ref p_images, .ref p_kept, .ref p_notes, .int v_noted, .int v_at, .int v_sort, .int v_start, .int v_value, .int v_vanillaIn, .ref p_held, .ref p_soonest])), (p_told, .inl (E.2.1, 43, .inl f_told)), (p_soonest, .inl (E.2.1, 64, .inl f_soonest))]
set_option maxHeartbeats 4000000 in
set_option maxRecDepth 100000 in
theorem b_X5_soonestOf_74 {p : Program} {l : Launch} {e : Env} {s : State} {m : MethodId} {args : Array Value} {below : List Frame} {meth : Method} {c : Code} {Q : State → Prop} {A : Nat → Prop} (E : Ev) (p_this : Nat) (p_text : Nat) (p_told : Nat) (p_draft : Nat) (p_s : Nat) (p_images : Nat) (p_kept : Nat) (p_notes : Nat) (p_held : Nat) (p_soonest : Nat) (v_trace : Int64) (v_typed : Int32) (v_noted : Int32) (v_at : Int32) (v_sort : Int32) (v_start : Int32) (v_value : Int32) (v_vanillaIn : Int32) (f_told : Nat → Int32) (f_soonest : Nat → Int32) (res : Int32) (X : Cx p s m args meth c cX5_soonestOf 5 RX5 (some .int)) (hK : KK E A s s.heap) (hA : ∀ q, s.heap.size ≤ q → A q) (hret : RetI p l e (RM 2) s m args below meth c Q E A cX5_soonestOf .int (w_X5_soonestOf E p_this p_text p_told p_draft p_s p_images p_kept p_notes p_held p_soonest v_trace v_typed v_noted v_at v_sort v_start v_value v_vanillaIn f_told f_soonest) res) (K5 : Int32 → Int32 → Int32 → Option Int32) (hK5 : ∀ (x1 : Int32) (x2 : Int32) (x3 : Int32), K5 x1 x2 x3 = some res → ∀ (H : Heap) (locs : List Loc) (ls : Array Slot), lv_has ls 5 [(0, .ref p_this), (1, .int x1), (2, .int x2), (3, .int x3)] → va_P E.1 classes (w_X5_soonestOf E p_this p_text p_told p_draft p_s p_images p_kept p_notes p_held p_soonest v_trace v_typed v_noted v_at v_sort v_start v_value v_vanillaIn f_told f_soonest) H → va_S A s.heap H locs → W p l e (RM 2) s m args below meth c H locs 0 0 Q (F0 m 5 ls [])) (x1 : Int32) (x3 : Int32) (k0 : Int32) (hf : f_X5_soonestOf_74 f_told f_soonest  K5 x1 x3 k0 = some res) : ∀ (H : Heap) (locs : List Loc) (ls : Array Slot), lv_has ls 5 [(0, .ref p_this), (1, .int x1), (3, .int x3)] → va_P E.1 classes (w_X5_soonestOf E p_this p_text p_told p_draft p_s p_images p_kept p_notes p_held p_soonest v_trace v_typed v_noted v_at v_sort v_start v_value v_vanillaIn f_told f_soonest) H → va_S A s.heap H locs → W p l e (RM 2) s m args below meth c H locs 0 0 Q (F0 m 74 ls [.int k0]) := by
  obtain ⟨hx, hb, hml, hown, hts, hrt, hlk⟩ := id X
  intro H locs ls hl hP hS
  unfold f_X5_soonestOf_74 at hf
  refine lv_istore_n (lv' := [(2, .int k0), (0, .ref p_this), (1, .int x1), (3, .int x3)]) hx hb dX5_soonestOf_74 rfl hl (by decide) rfl (fun ls hl => ?_)
  refine lv_iinc (v := (x3 + (1 : Int32))) (lv' := [(3, .int (x3 + (1 : Int32))), (2, .int k0), (0, .ref p_this), (1, .int x1)]) hx hb dX5_soonestOf_75 hl (k := 3) rfl rfl (by decide) rfl (fun ls hl => ?_)
  refine lv_goto (tgt := 5) hx hb dX5_soonestOf_78 (by decide) ?_
  exact hK5 x1 k0 (x3 + (1 : Int32)) hf H locs ls (lv_sub hl [2, 3, 1, 0] rfl) hP hS

set_option maxHeartbeats 4000000 in
set_option maxRecDepth 100000 in
theorem b_X5_soonestOf_73 {p : Program} {l : Launch} {e : Env} {s : State} {m : MethodId} {args : Array Value} {below : List Frame} {meth : Method} {c : Code} {Q : State → Prop} {A : Nat → Prop} (E : Ev) (p_this : Nat) (p_text : Nat) (p_told : Nat) (p_draft : Nat) (p_s : Nat) (p_images : Nat) (p_kept : Nat) (p_notes : Nat) (p_held : Nat) (p_soonest : Nat) (v_trace : Int64) (v_typed : Int32) (v_noted : Int32) (v_at : Int32) (v_sort : Int32) (v_start : Int32) (v_value : Int32) (v_vanillaIn : Int32) (f_told : Nat → Int32) (f_soonest : Nat → Int32) (res : Int32) (X : Cx p s m args meth c cX5_soonestOf 5 RX5 (some .int)) (hK : KK E A s s.heap) (hA : ∀ q, s.heap.size ≤ q → A q) (hret : RetI p l e (RM 2) s m args below meth c Q E A cX5_soonestOf .int (w_X5_soonestOf E p_this p_text p_told p_draft p_s p_images p_kept p_notes p_held p_soonest v_trace v_typed v_noted v_at v_sort v_start v_value v_vanillaIn f_told f_soonest) res) (K5 : Int32 → Int32 → Int32 → Option Int32) (hK5 : ∀ (x1 : Int32) (x2 : Int32) (x3 : Int32), K5 x1 x2 x3 = some res → ∀ (H : Heap) (locs : List Loc) (ls : Array Slot), lv_has ls 5 [(0, .ref p_this), (1, .int x1), (2, .int x2), (3, .int x3)] → va_P E.1 classes (w_X5_soonestOf E p_this p_text p_told p_draft p_s p_images p_kept p_notes p_held p_soonest v_trace v_typed v_noted v_at v_sort v_start v_value v_vanillaIn f_told f_soonest) H → va_S A s.heap H locs → W p l e (RM 2) s m args below meth c H locs 0 0 Q (F0 m 5 ls [])) (x1 : Int32) (x2 : Int32) (x3 : Int32) (hf : f_X5_soonestOf_73 f_told f_soonest  K5 x1 x2 x3 = some res) : ∀ (H : Heap) (locs : List Loc) (ls : Array Slot), lv_has ls 5 [(0, .ref p_this), (1, .int x1), (2, .int x2), (3, .int x3)] → va_P E.1 classes (w_X5_soonestOf E p_this p_text p_told p_draft p_s p_images p_kept p_notes p_held p_soonest v_trace v_typed v_noted v_at v_sort v_start v_value v_vanillaIn f_told f_soonest) H → va_S A s.heap H locs → W p l e (RM 2) s m args below meth c H locs 0 0 Q (F0 m 73 ls []) := by
  obtain ⟨hx, hb, hml, hown, hts, hrt, hlk⟩ := id X
  intro H locs ls hl hP hS
  unfold f_X5_soonestOf_73 at hf
  refine lv_iload_n hx hb dX5_soonestOf_73 rfl (lv_at hl 2 rfl) ?_
  exact b_X5_soonestOf_74 E p_this p_text p_told p_draft p_s p_images p_kept p_notes p_held p_soonest v_trace v_typed v_noted v_at v_sort v_start v_value v_vanillaIn f_told f_soonest res X hK hA hret  K5 hK5 x1 x3 x2 hf H locs ls (lv_sub hl [0, 1, 3] rfl) hP hS

set_option maxHeartbeats 4000000 in
set_option maxRecDepth 100000 in
theorem b_X5_soonestOf_64 {p : Program} {l : Launch} {e : Env} {s : State} {m : MethodId} {args : Array Value} {below : List Frame} {meth : Method} {c : Code} {Q : State → Prop} {A : Nat → Prop} (E : Ev) (p_this : Nat) (p_text : Nat) (p_told : Nat) (p_draft : Nat) (p_s : Nat) (p_images : Nat) (p_kept : Nat) (p_notes : Nat) (p_held : Nat) (p_soonest : Nat) (v_trace : Int64) (v_typed : Int32) (v_noted : Int32) (v_at : Int32) (v_sort : Int32) (v_start : Int32) (v_value : Int32) (v_vanillaIn : Int32) (f_told : Nat → Int32) (f_soonest : Nat → Int32) (res : Int32) (X : Cx p s m args meth c cX5_soonestOf 5 RX5 (some .int)) (hK : KK E A s s.heap) (hA : ∀ q, s.heap.size ≤ q → A q) (hret : RetI p l e (RM 2) s m args below meth c Q E A cX5_soonestOf .int (w_X5_soonestOf E p_this p_text p_told p_draft p_s p_images p_kept p_notes p_held p_soonest v_trace v_typed v_noted v_at v_sort v_start v_value v_vanillaIn f_told f_soonest) res) (K5 : Int32 → Int32 → Int32 → Option Int32) (hK5 : ∀ (x1 : Int32) (x2 : Int32) (x3 : Int32), K5 x1 x2 x3 = some res → ∀ (H : Heap) (locs : List Loc) (ls : Array Slot), lv_has ls 5 [(0, .ref p_this), (1, .int x1), (2, .int x2), (3, .int x3)] → va_P E.1 classes (w_X5_soonestOf E p_this p_text p_told p_draft p_s p_images p_kept p_notes p_held p_soonest v_trace v_typed v_noted v_at v_sort v_start v_value v_vanillaIn f_told f_soonest) H → va_S A s.heap H locs → W p l e (RM 2) s m args below meth c H locs 0 0 Q (F0 m 5 ls [])) (x1 : Int32) (x3 : Int32) (hf : f_X5_soonestOf_64 f_told f_soonest  K5 x1 x3 = some res) : ∀ (H : Heap) (locs : List Loc) (ls : Array Slot), lv_has ls 5 [(0, .ref p_this), (1, .int x1), (3, .int x3)] → va_P E.1 classes (w_X5_soonestOf E p_this p_text p_told p_draft p_s p_images p_kept p_notes p_held p_soonest v_trace v_typed v_noted v_at v_sort v_start v_value v_vanillaIn f_told f_soonest) H → va_S A s.heap H locs → W p l e (RM 2) s m args below meth c H locs 0 0 Q (F0 m 64 ls []) := by
  obtain ⟨hx, hb, hml, hown, hts, hrt, hlk⟩ := id X
  intro H locs ls hl hP hS
  unfold f_X5_soonestOf_64 at hf
  refine lv_aload_n hx hb dX5_soonestOf_64 rfl (lv_at hl 0 rfl) ?_
  refine gf_RX5_39 X hK hP 0 rfl rfl dX5_soonestOf_65 ?_
  refine lv_iload_n hx hb dX5_soonestOf_68 rfl (lv_at hl 2 rfl) ?_
  obtain ⟨g_1, hf⟩ := og hf
  refine iald X hK hP 2 rfl _ rfl g_1 dX5_soonestOf_69 ?_
  refine lv_goto (tgt := 74) hx hb dX5_soonestOf_70 (by decide) ?_
  exact b_X5_soonestOf_74 E p_this p_text p_told p_draft p_s p_images p_kept p_notes p_held p_soonest v_trace v_typed v_noted v_at v_sort v_start v_value v_vanillaIn f_told f_soonest res X hK hA hret  K5 hK5 x1 x3 (f_soonest x3.toNatClampNeg) hf H locs ls (lv_sub hl [0, 1, 2] rfl) hP hS

set_option maxHeartbeats 4000000 in
set_option maxRecDepth 100000 in
theorem b_X5_soonestOf_41 {p : Program} {l : Launch} {e : Env} {s : State} {m : MethodId} {args : Array Value} {below : List Frame} {meth : Method} {c : Code} {Q : State → Prop} {A : Nat → Prop} (E : Ev) (p_this : Nat) (p_text : Nat) (p_told : Nat) (p_draft : Nat) (p_s : Nat) (p_images : Nat) (p_kept : Nat) (p_notes : Nat) (p_held : Nat) (p_soonest : Nat) (v_trace : Int64) (v_typed : Int32) (v_noted : Int32) (v_at : Int32) (v_sort : Int32) (v_start : Int32) (v_value : Int32) (v_vanillaIn : Int32) (f_told : Nat → Int32) (f_soonest : Nat → Int32) (res : Int32) (X : Cx p s m args meth c cX5_soonestOf 5 RX5 (some .int)) (hK : KK E A s s.heap) (hA : ∀ q, s.heap.size ≤ q → A q) (hret : RetI p l e (RM 2) s m args below meth c Q E A cX5_soonestOf .int (w_X5_soonestOf E p_this p_text p_told p_draft p_s p_images p_kept p_notes p_held p_soonest v_trace v_typed v_noted v_at v_sort v_start v_value v_vanillaIn f_told f_soonest) res) (K5 : Int32 → Int32 → Int32 → Option Int32) (hK5 : ∀ (x1 : Int32) (x2 : Int32) (x3 : Int32), K5 x1 x2 x3 = some res → ∀ (H : Heap) (locs : List Loc) (ls : Array Slot), lv_has ls 5 [(0, .ref p_this), (1, .int x1), (2, .int x2), (3, .int x3)] → va_P E.1 classes (w_X5_soonestOf E p_this p_text p_told p_draft p_s p_images p_kept p_notes p_held p_soonest v_trace v_typed v_noted v_at v_sort v_start v_value v_vanillaIn f_told f_soonest) H → va_S A s.heap H locs → W p l e (RM 2) s m args below meth c H locs 0 0 Q (F0 m 5 ls [])) (x1 : Int32) (x2 : Int32) (x3 : Int32) (k0 : Int32) (hf : f_X5_soonestOf_41 f_told f_soonest  K5 x1 x2 x3 k0 = some res) : ∀ (H : Heap) (locs : List Loc) (ls : Array Slot), lv_has ls 5 [(0, .ref p_this), (1, .int x1), (2, .int x2), (3, .int x3)] → va_P E.1 classes (w_X5_soonestOf E p_this p_text p_told p_draft p_s p_images p_kept p_notes p_held p_soonest v_trace v_typed v_noted v_at v_sort v_start v_value v_vanillaIn f_told f_soonest) H → va_S A s.heap H locs → W p l e (RM 2) s m args below meth c H locs 0 0 Q (F0 m 41 ls [.int k0]) := by
  obtain ⟨hx, hb, hml, hown, hts, hrt, hlk⟩ := id X
  intro H locs ls hl hP hS
  unfold f_X5_soonestOf_41 at hf
  refine lv_istore (lv' := [(4, .int k0), (0, .ref p_this), (1, .int x1), (2, .int x2), (3, .int x3)]) hx hb dX5_soonestOf_41 hl (by decide) rfl (fun ls hl => ?_)
  refine lv_iload hx hb dX5_soonestOf_43 (lv_at hl 0 rfl) ?_
  refine lv_if_eq (tgt := 73) hx hb dX5_soonestOf_45 (by decide) (fun c_1 => ?_) (fun c_1 => ?_)
  · replace hf := ot c_1 hf
    exact b_X5_soonestOf_73 E p_this p_text p_told p_draft p_s p_images p_kept p_notes p_held p_soonest v_trace v_typed v_noted v_at v_sort v_start v_value v_vanillaIn f_told f_soonest res X hK hA hret  K5 hK5 x1 x2 x3 hf H locs ls (lv_sub hl [1, 2, 3, 4] rfl) hP hS
  · replace hf := of c_1 hf
    refine lv_iload_n hx hb dX5_soonestOf_48 rfl (lv_at hl 3 rfl) ?_
    refine lv_bipush (v := (-9 : Int32)) hx hb dX5_soonestOf_49 (by decide) ?_
    refine lv_icmp_eq (tgt := 64) hx hb dX5_soonestOf_51 (by decide) (fun c_2 => ?_) (fun c_2 => ?_)
    · replace hf := ot c_2 hf
      exact b_X5_soonestOf_64 E p_this p_text p_told p_draft p_s p_images p_kept p_notes p_held p_soonest v_trace v_typed v_noted v_at v_sort v_start v_value v_vanillaIn f_told f_soonest res X hK hA hret  K5 hK5 x1 x3 hf H locs ls (lv_sub hl [1, 2, 4] rfl) hP hS
    · replace hf := of c_2 hf
      refine lv_aload_n hx hb dX5_soonestOf_54 rfl (lv_at hl 1 rfl) ?_
      refine gf_RX5_39 X hK hP 0 rfl rfl dX5_soonestOf_55 ?_
      refine lv_iload_n hx hb dX5_soonestOf_58 rfl (lv_at hl 4 rfl) ?_
      obtain ⟨g_3, hf⟩ := og hf
      refine iald X hK hP 2 rfl _ rfl g_3 dX5_soonestOf_59 ?_
      refine lv_iload_n hx hb dX5_soonestOf_60 rfl (lv_at hl 3 rfl) ?_
      refine lv_icmp_ge (tgt := 73) hx hb dX5_soonestOf_61 (by decide) (fun c_4 => ?_) (fun c_4 => ?_)
      · replace hf := ot c_4 hf
        exact b_X5_soonestOf_73 E p_this p_text p_told p_draft p_s p_images p_kept p_notes p_held p_soonest v_trace v_typed v_noted v_at v_sort v_start v_value v_vanillaIn f_told f_soonest res X hK hA hret  K5 hK5 x1 x2 x3 hf H locs ls (lv_sub hl [1, 2, 3, 4] rfl) hP hS
      · replace hf := of c_4 hf
        exact b_X5_soonestOf_64 E p_this p_text p_told p_draft p_s p_images p_kept p_notes p_held p_soonest v_trace v_typed v_noted v_at v_sort v_start v_value v_vanillaIn f_told f_soonest res X hK hA hret  K5 hK5 x1 x3 hf H locs ls (lv_sub hl [1, 2, 4] rfl) hP hS

set_option maxHeartbeats 4000000 in
set_option maxRecDepth 100000 in
theorem b_X5_soonestOf_40 {p : Program} {l : Launch} {e : Env} {s : State} {m : MethodId} {args : Array Value} {below : List Frame} {meth : Method} {c : Code} {Q : State → Prop} {A : Nat → Prop} (E : Ev) (p_this : Nat) (p_text : Nat) (p_told : Nat) (p_draft : Nat) (p_s : Nat) (p_images : Nat) (p_kept : Nat) (p_notes : Nat) (p_held : Nat) (p_soonest : Nat) (v_trace : Int64) (v_typed : Int32) (v_noted : Int32) (v_at : Int32) (v_sort : Int32) (v_start : Int32) (v_value : Int32) (v_vanillaIn : Int32) (f_told : Nat → Int32) (f_soonest : Nat → Int32) (res : Int32) (X : Cx p s m args meth c cX5_soonestOf 5 RX5 (some .int)) (hK : KK E A s s.heap) (hA : ∀ q, s.heap.size ≤ q → A q) (hret : RetI p l e (RM 2) s m args below meth c Q E A cX5_soonestOf .int (w_X5_soonestOf E p_this p_text p_told p_draft p_s p_images p_kept p_notes p_held p_soonest v_trace v_typed v_noted v_at v_sort v_start v_value v_vanillaIn f_told f_soonest) res) (K5 : Int32 → Int32 → Int32 → Option Int32) (hK5 : ∀ (x1 : Int32) (x2 : Int32) (x3 : Int32), K5 x1 x2 x3 = some res → ∀ (H : Heap) (locs : List Loc) (ls : Array Slot), lv_has ls 5 [(0, .ref p_this), (1, .int x1), (2, .int x2), (3, .int x3)] → va_P E.1 classes (w_X5_soonestOf E p_this p_text p_told p_draft p_s p_images p_kept p_notes p_held p_soonest v_trace v_typed v_noted v_at v_sort v_start v_value v_vanillaIn f_told f_soonest) H → va_S A s.heap H locs → W p l e (RM 2) s m args below meth c H locs 0 0 Q (F0 m 5 ls [])) (x1 : Int32) (x2 : Int32) (x3 : Int32) (hf : f_X5_soonestOf_40 f_told f_soonest  K5 x1 x2 x3 = some res) : ∀ (H : Heap) (locs : List Loc) (ls : Array Slot), lv_has ls 5 [(0, .ref p_this), (1, .int x1), (2, .int x2), (3, .int x3)] → va_P E.1 classes (w_X5_soonestOf E p_this p_text p_told p_draft p_s p_images p_kept p_notes p_held p_soonest v_trace v_typed v_noted v_at v_sort v_start v_value v_vanillaIn f_told f_soonest) H → va_S A s.heap H locs → W p l e (RM 2) s m args below meth c H locs 0 0 Q (F0 m 40 ls []) := by
  obtain ⟨hx, hb, hml, hown, hts, hrt, hlk⟩ := id X
  intro H locs ls hl hP hS
  unfold f_X5_soonestOf_40 at hf
  refine lv_iconst (v := (0 : Int32)) hx hb dX5_soonestOf_40 (by decide) ?_
  exact b_X5_soonestOf_41 E p_this p_text p_told p_draft p_s p_images p_kept p_notes p_held p_soonest v_trace v_typed v_noted v_at v_sort v_start v_value v_vanillaIn f_told f_soonest res X hK hA hret  K5 hK5 x1 x2 x3 (0 : Int32) hf H locs ls (lv_sub hl [0, 1, 2, 3] rfl) hP hS

set_option maxHeartbeats 4000000 in
set_option maxRecDepth 100000 in
theorem b_X5_soonestOf_5 {p : Program} {l : Launch} {e : Env} {s : State} {m : MethodId} {args : Array Value} {below : List Frame} {meth : Method} {c : Code} {Q : State → Prop} {A : Nat → Prop} (E : Ev) (p_this : Nat) (p_text : Nat) (p_told : Nat) (p_draft : Nat) (p_s : Nat) (p_images : Nat) (p_kept : Nat) (p_notes : Nat) (p_held : Nat) (p_soonest : Nat) (v_trace : Int64) (v_typed : Int32) (v_noted : Int32) (v_at : Int32) (v_sort : Int32) (v_start : Int32) (v_value : Int32) (v_vanillaIn : Int32) (f_told : Nat → Int32) (f_soonest : Nat → Int32) (res : Int32) (X : Cx p s m args meth c cX5_soonestOf 5 RX5 (some .int)) (hK : KK E A s s.heap) (hA : ∀ q, s.heap.size ≤ q → A q) (hret : RetI p l e (RM 2) s m args below meth c Q E A cX5_soonestOf .int (w_X5_soonestOf E p_this p_text p_told p_draft p_s p_images p_kept p_notes p_held p_soonest v_trace v_typed v_noted v_at v_sort v_start v_value v_vanillaIn f_told f_soonest) res)  : ∀ (n : Nat) (x1 : Int32) (x2 : Int32) (x3 : Int32), f_X5_soonestOf_5 f_told f_soonest   n x1 x2 x3 = some res → ∀ (H : Heap) (locs : List Loc) (ls : Array Slot), lv_has ls 5 [(0, .ref p_this), (1, .int x1), (2, .int x2), (3, .int x3)] → va_P E.1 classes (w_X5_soonestOf E p_this p_text p_told p_draft p_s p_images p_kept p_notes p_held p_soonest v_trace v_typed v_noted v_at v_sort v_start v_value v_vanillaIn f_told f_soonest) H → va_S A s.heap H locs → W p l e (RM 2) s m args below meth c H locs 0 0 Q (F0 m 5 ls []) := by
  obtain ⟨hx, hb, hml, hown, hts, hrt, hlk⟩ := id X
  intro n
  induction n with
  | zero => intro x1 x2 x3 hf; exact absurd hf (by simp [f_X5_soonestOf_5])
  | succ n ih =>
    intro x1 x2 x3 hf H locs ls hl hP hS
    unfold f_X5_soonestOf_5 at hf
    refine lv_iload_n hx hb dX5_soonestOf_5 rfl (lv_at hl 3 rfl) ?_
    refine lv_iconst (v := (1 : Int32)) hx hb dX5_soonestOf_6 (by decide) ?_
    refine lv_aload_n hx hb dX5_soonestOf_7 rfl (lv_at hl 0 rfl) ?_
    refine gf_RX5_13 X hK hP 0 rfl rfl dX5_soonestOf_8 ?_
    refine lv_iconst (v := (1 : Int32)) hx hb dX5_soonestOf_11 (by decide) ?_
    refine iald X hK hP 1 rfl 1 (by decide) (by decide) dX5_soonestOf_12 ?_
    refine lv_ishl hx hb dX5_soonestOf_13 ?_
    refine lv_icmp_ge (tgt := 81) hx hb dX5_soonestOf_14 (by decide) (fun c_2 => ?_) (fun c_2 => ?_)
    · replace hf := ot c_2 hf
      refine lv_iload_n hx hb dX5_soonestOf_81 rfl (lv_at hl 2 rfl) ?_
      obtain rfl := Option.some.inj hf
      exact hret H locs _ ls rfl hP hS dX5_soonestOf_82
    · replace hf := of c_2 hf
      refine lv_iload_n hx hb dX5_soonestOf_17 rfl (lv_at hl 3 rfl) ?_
      obtain ⟨u_3, hu_3, hf⟩ := ob hf
      refine pS X hK hA hP hS hl.1 (m_X5_ones (l := l) E   x3 u_3 hu_3) kRX5_94 ⟨⟨(Nat.le_of_ble_eq_true rfl), (Nat.le_of_ble_eq_true rfl)⟩, Nat.zero_le _, Nat.zero_le _⟩ rfl rfl (Nat.le_of_ble_eq_true rfl) dX5_soonestOf_18 (fun H locs hP hS => ?_)
      refine lv_iload_n hx hb dX5_soonestOf_21 rfl (lv_at hl 1 rfl) ?_
      refine lv_icmp_ne (tgt := 40) hx hb dX5_soonestOf_22 (by decide) (fun c_4 => ?_) (fun c_4 => ?_)
      · replace hf := of c_4 hf
        exact b_X5_soonestOf_40 E p_this p_text p_told p_draft p_s p_images p_kept p_notes p_held p_soonest v_trace v_typed v_noted v_at v_sort v_start v_value v_vanillaIn f_told f_soonest res X hK hA hret  (f_X5_soonestOf_5 f_told f_soonest   n) ih x1 x2 x3 hf H locs ls (lv_sub hl [0, 1, 2, 3] rfl) hP hS
      · replace hf := ot c_4 hf
        refine lv_aload_n hx hb dX5_soonestOf_25 rfl (lv_at hl 0 rfl) ?_
        refine gf_RX5_39 X hK hP 0 rfl rfl dX5_soonestOf_26 ?_
        refine lv_iload_n hx hb dX5_soonestOf_29 rfl (lv_at hl 3 rfl) ?_
        obtain ⟨g_5, hf⟩ := og hf
        refine iald X hK hP 2 rfl _ rfl g_5 dX5_soonestOf_30 ?_
        refine lv_bipush (v := (-9 : Int32)) hx hb dX5_soonestOf_31 (by decide) ?_
        refine lv_icmp_eq (tgt := 40) hx hb dX5_soonestOf_33 (by decide) (fun c_6 => ?_) (fun c_6 => ?_)
        · replace hf := ot c_6 hf
          exact b_X5_soonestOf_40 E p_this p_text p_told p_draft p_s p_images p_kept p_notes p_held p_soonest v_trace v_typed v_noted v_at v_sort v_start v_value v_vanillaIn f_told f_soonest res X hK hA hret  (f_X5_soonestOf_5 f_told f_soonest   n) ih x1 x2 x3 hf H locs ls (lv_sub hl [0, 1, 2, 3] rfl) hP hS
        · replace hf := of c_6 hf
          refine lv_iconst (v := (1 : Int32)) hx hb dX5_soonestOf_36 (by decide) ?_
          refine lv_goto (tgt := 41) hx hb dX5_soonestOf_37 (by decide) ?_
          exact b_X5_soonestOf_41 E p_this p_text p_told p_draft p_s p_images p_kept p_notes p_held p_soonest v_trace v_typed v_noted v_at v_sort v_start v_value v_vanillaIn f_told f_soonest res X hK hA hret  (f_X5_soonestOf_5 f_told f_soonest   n) ih x1 x2 x3 (1 : Int32) hf H locs ls (lv_sub hl [0, 1, 2, 3] rfl) hP hS

set_option maxHeartbeats 4000000 in
set_option maxRecDepth 100000 in
theorem m_X5_soonestOf {l : Launch} (E : Ev) (p_this : Nat) (p_text : Nat) (p_told : Nat) (p_draft : Nat) (p_s : Nat) (p_images : Nat) (p_kept : Nat) (p_notes : Nat) (p_held : Nat) (p_soonest : Nat) (v_trace : Int64) (v_typed : Int32) (v_noted : Int32) (v_at : Int32) (v_sort : Int32) (v_start : Int32) (v_value : Int32) (v_vanillaIn : Int32) (f_told : Nat → Int32) (f_soonest : Nat → Int32) (x1 : Int32) (res : Int32) (hf : f_X5_soonestOf  f_told f_soonest x1 = some res) : PureI l E 2 yX5_soonestOf cX5_soonestOf 5 .int [.ref p_this, .int x1] (w_X5_soonestOf E p_this p_text p_told p_draft p_s p_images p_kept p_notes p_held p_soonest v_trace v_typed v_noted v_at v_sort v_start v_value v_vanillaIn f_told f_soonest) res := by
  refine PureI.of (by decide) (Nat.le_of_ble_eq_true rfl) ?_
  intro p e s m args below meth c Q A X hK hA hret H locs ls hl hP hS
  obtain ⟨hx, hb, hml, hown, hts, hrt, hlk⟩ := id X
  have hl : lv_has ls 5 [(0, .ref p_this), (1, .int x1)] := hl
  unfold f_X5_soonestOf at hf
  refine lv_bipush (v := (-9 : Int32)) hx hb dX5_soonestOf_0 (by decide) ?_
  refine lv_istore_n (lv' := [(2, .int (-9 : Int32)), (0, .ref p_this), (1, .int x1)]) hx hb dX5_soonestOf_2 rfl hl (by decide) rfl (fun ls hl => ?_)
  refine lv_iconst (v := (0 : Int32)) hx hb dX5_soonestOf_3 (by decide) ?_
  refine lv_istore_n (lv' := [(3, .int (0 : Int32)), (2, .int (-9 : Int32)), (0, .ref p_this), (1, .int x1)]) hx hb dX5_soonestOf_4 rfl hl (by decide) rfl (fun ls hl => ?_)
  exact b_X5_soonestOf_5 E p_this p_text p_told p_draft p_s p_images p_kept p_notes p_held p_soonest v_trace v_typed v_noted v_at v_sort v_start v_value v_vanillaIn f_told f_soonest res X hK hA hret   FU x1 (-9 : Int32) (0 : Int32) hf H locs ls (lv_sub hl [2, 3, 1, 0] rfl) hP hS

abbrev w_X5_order (E : Ev) (p_this : Nat) (p_text : Nat) (p_told : Nat) (p_draft : Nat) (p_s : Nat) (p_images : Nat) (p_kept : Nat) (p_notes : Nat) (p_held : Nat) (p_soonest : Nat) (v_trace : Int64) (v_typed : Int32) (v_noted : Int32) (v_at : Int32) (v_sort : Int32) (v_start : Int32) (v_value : Int32) (v_vanillaIn : Int32) (f_told : Nat → Int32) (f_s : Nat → Int32) (f_soonest : Nat → Int32) : va_W := [(p_this, .inr (5, [.long v_trace, .ref p_text, .int v_typed, .ref p_told, .ref p_draft, .ref p_s, .ref p_images, .ref p_kept, .ref p_notes, .int v_noted, .int v_at, .int v_sort, .int v_start, .int v_value, .int v_vanillaIn, .ref p_held, .ref p_soonest])), (p_told, .inl (E.2.1, 43, .inl f_told)), (p_s, .inl (E.2.1, 155, .inl f_s)), (p_soonest, .inl (E.2.1, 64, .inl f_soonest))]
set_option maxHeartbeats 4000000 in
set_option maxRecDepth 100000 in
theorem b_X5_order_242 {p : Program} {l : Launch} {e : Env} {s : State} {m : MethodId} {args : Array Value} {below : List Frame} {meth : Method} {c : Code} {Q : State → Prop} {A : Nat → Prop} (E : Ev) (p_this : Nat) (p_text : Nat) (p_told : Nat) (p_draft : Nat) (p_s : Nat) (p_images : Nat) (p_kept : Nat) (p_notes : Nat) (p_held : Nat) (p_soonest : Nat) (v_trace : Int64) (v_typed : Int32) (v_noted : Int32) (v_at : Int32) (v_sort : Int32) (v_start : Int32) (v_value : Int32) (v_vanillaIn : Int32) (f_told : Nat → Int32) (f_s : Nat → Int32) (res : Int32 × (Nat → Int32)) (X : Cx p s m args meth c cX5_order 12 RX5 (some .int)) (hK : KK E A s s.heap) (hA : ∀ q, s.heap.size ≤ q → A q) (hret : RetI p l e (RM 4) s m args below meth c Q E A cX5_order .int (w_X5_order E p_this p_text p_told p_draft p_s p_images p_kept p_notes p_held p_soonest v_trace v_typed v_noted v_at v_sort v_start v_value v_vanillaIn f_told f_s res.2) res.1)  (f_soonest : Nat → Int32) (x3 : Int32) (x5 : Int32) (x8 : Int32) (hf : f_X5_order_242 f_told f_s   f_soonest x3 x5 x8 = some res) : ∀ (H : Heap) (locs : List Loc) (ls : Array Slot), lv_has ls 12 [(3, .int x3), (5, .int x5), (8, .int x8)] → va_P E.1 classes (w_X5_order E p_this p_text p_told p_draft p_s p_images p_kept p_notes p_held p_soonest v_trace v_typed v_noted v_at v_sort v_start v_value v_vanillaIn f_told f_s f_soonest) H → va_D A (w_X5_order E p_this p_text p_told p_draft p_s p_images p_kept p_notes p_held p_soonest v_trace v_typed v_noted v_at v_sort v_start v_value v_vanillaIn f_told f_s f_soonest) → va_S A s.heap H locs → W p l e (RM 4) s m args below meth c H locs 0 0 Q (F0 m 242 ls []) := by
  obtain ⟨hx, hb, hml, hown, hts, hrt, hlk⟩ := id X
  intro H locs ls hl hP hD hS
  unfold f_X5_order_242 at hf
  refine lv_iload_n hx hb dX5_order_242 rfl (lv_at hl 0 rfl) ?_
  refine lv_iload hx hb dX5_order_243 (lv_at hl 1 rfl) ?_
  refine lv_icmp_ge (tgt := 253) hx hb dX5_order_245 (by decide) (fun c_1 => ?_) (fun c_1 => ?_)
  · replace hf := ot c_1 hf
    refine lv_bipush (v := (-9 : Int32)) hx hb dX5_order_253 (by decide) ?_
    obtain rfl := Option.some.inj hf
    exact hret H locs _ ls rfl hP hS dX5_order_255
  · replace hf := of c_1 hf
    refine lv_iload hx hb dX5_order_248 (lv_at hl 2 rfl) ?_
    refine lv_goto (tgt := 255) hx hb dX5_order_250 (by decide) ?_
    obtain rfl := Option.some.inj hf
    exact hret H locs _ ls rfl hP hS dX5_order_255

set_option maxHeartbeats 4000000 in
set_option maxRecDepth 100000 in
theorem b_X5_order_223 {p : Program} {l : Launch} {e : Env} {s : State} {m : MethodId} {args : Array Value} {below : List Frame} {meth : Method} {c : Code} {Q : State → Prop} {A : Nat → Prop} (E : Ev) (p_this : Nat) (p_text : Nat) (p_told : Nat) (p_draft : Nat) (p_s : Nat) (p_images : Nat) (p_kept : Nat) (p_notes : Nat) (p_held : Nat) (p_soonest : Nat) (v_trace : Int64) (v_typed : Int32) (v_noted : Int32) (v_at : Int32) (v_sort : Int32) (v_start : Int32) (v_value : Int32) (v_vanillaIn : Int32) (f_told : Nat → Int32) (f_s : Nat → Int32) (res : Int32 × (Nat → Int32)) (X : Cx p s m args meth c cX5_order 12 RX5 (some .int)) (hK : KK E A s s.heap) (hA : ∀ q, s.heap.size ≤ q → A q) (hret : RetI p l e (RM 4) s m args below meth c Q E A cX5_order .int (w_X5_order E p_this p_text p_told p_draft p_s p_images p_kept p_notes p_held p_soonest v_trace v_typed v_noted v_at v_sort v_start v_value v_vanillaIn f_told f_s res.2) res.1) (K105 : (Nat → Int32) → Int32 → Int32 → Int32 → Int32 → Int32 → Int32 → Int32 → Int32 → Int32 → Option (Int32 × (Nat → Int32))) (hK105 : ∀ (f_soonest : Nat → Int32) (x1 : Int32) (x2 : Int32) (x3 : Int32) (x4 : Int32) (x5 : Int32) (x6 : Int32) (x7 : Int32) (x8 : Int32) (x9 : Int32), K105 f_soonest x1 x2 x3 x4 x5 x6 x7 x8 x9 = some res → ∀ (H : Heap) (locs : List Loc) (ls : Array Slot), lv_has ls 12 [(0, .ref p_this), (1, .int x1), (2, .int x2), (3, .int x3), (4, .int x4), (5, .int x5), (6, .int x6), (7, .int x7), (8, .int x8), (9, .int x9)] → va_P E.1 classes (w_X5_order E p_this p_text p_told p_draft p_s p_images p_kept p_notes p_held p_soonest v_trace v_typed v_noted v_at v_sort v_start v_value v_vanillaIn f_told f_s f_soonest) H → va_D A (w_X5_order E p_this p_text p_told p_draft p_s p_images p_kept p_notes p_held p_soonest v_trace v_typed v_noted v_at v_sort v_start v_value v_vanillaIn f_told f_s f_soonest) → va_S A s.heap H locs → W p l e (RM 4) s m args below meth c H locs 0 0 Q (F0 m 105 ls [])) (f_soonest : Nat → Int32) (x1 : Int32) (x2 : Int32) (x3 : Int32) (x5 : Int32) (x6 : Int32) (x7 : Int32) (x8 : Int32) (x9 : Int32) (x10 : Int32) (hf : f_X5_order_223 f_told f_s  K105 f_soonest x1 x2 x3 x5 x6 x7 x8 x9 x10 = some res) : ∀ (H : Heap) (locs : List Loc) (ls : Array Slot), lv_has ls 12 [(0, .ref p_this), (1, .int x1), (2, .int x2), (3, .int x3), (5, .int x5), (6, .int x6), (7, .int x7), (8, .int x8), (9, .int x9), (10, .int x10)] → va_P E.1 classes (w_X5_order E p_this p_text p_told p_draft p_s p_images p_kept p_notes p_held p_soonest v_trace v_typed v_noted v_at v_sort v_start v_value v_vanillaIn f_told f_s f_soonest) H → va_D A (w_X5_order E p_this p_text p_told p_draft p_s p_images p_kept p_notes p_held p_soonest v_trace v_typed v_noted v_at v_sort v_start v_value v_vanillaIn f_told f_s f_soonest) → va_S A s.heap H locs → W p l e (RM 4) s m args below meth c H locs 0 0 Q (F0 m 223 ls []) := by
  obtain ⟨hx, hb, hml, hown, hts, hrt, hlk⟩ := id X
  intro H locs ls hl hP hD hS
  unfold f_X5_order_223 at hf
  refine lv_iload hx hb dX5_order_223 (lv_at hl 6 rfl) ?_
  refine lv_iconst (v := (1 : Int32)) hx hb dX5_order_225 (by decide) ?_
  refine lv_iload hx hb dX5_order_226 (lv_at hl 7 rfl) ?_
  refine lv_ishl hx hb dX5_order_228 ?_
  refine lv_ior hx hb dX5_order_229 ?_
  refine lv_istore (lv' := [(7, .int (x7 ||| ((1 : Int32) <<< (x8 &&& 31)))), (0, .ref p_this), (1, .int x1), (2, .int x2), (3, .int x3), (5, .int x5), (6, .int x6), (8, .int x8), (9, .int x9), (10, .int x10)]) hx hb dX5_order_230 hl (by decide) rfl (fun ls hl => ?_)
  refine lv_iload hx hb dX5_order_232 (lv_at hl 9 rfl) ?_
  refine lv_istore (lv' := [(4, .int x10), (7, .int (x7 ||| ((1 : Int32) <<< (x8 &&& 31)))), (0, .ref p_this), (1, .int x1), (2, .int x2), (3, .int x3), (5, .int x5), (6, .int x6), (8, .int x8), (9, .int x9), (10, .int x10)]) hx hb dX5_order_234 hl (by decide) rfl (fun ls hl => ?_)
  refine lv_iinc (v := (x9 + (1 : Int32))) (lv' := [(9, .int (x9 + (1 : Int32))), (4, .int x10), (7, .int (x7 ||| ((1 : Int32) <<< (x8 &&& 31)))), (0, .ref p_this), (1, .int x1), (2, .int x2), (3, .int x3), (5, .int x5), (6, .int x6), (8, .int x8), (10, .int x10)]) hx hb dX5_order_236 hl (k := 9) rfl rfl (by decide) rfl (fun ls hl => ?_)
  refine lv_goto (tgt := 105) hx hb dX5_order_239 (by decide) ?_
  exact hK105 f_soonest x1 x2 x3 x10 x5 x6 (x7 ||| ((1 : Int32) <<< (x8 &&& 31))) x8 (x9 + (1 : Int32)) hf H locs ls (lv_sub hl [3, 4, 5, 6, 1, 7, 8, 2, 9, 0] rfl) hP hD hS

set_option maxHeartbeats 4000000 in
set_option maxRecDepth 100000 in
theorem b_X5_order_215 {p : Program} {l : Launch} {e : Env} {s : State} {m : MethodId} {args : Array Value} {below : List Frame} {meth : Method} {c : Code} {Q : State → Prop} {A : Nat → Prop} (E : Ev) (p_this : Nat) (p_text : Nat) (p_told : Nat) (p_draft : Nat) (p_s : Nat) (p_images : Nat) (p_kept : Nat) (p_notes : Nat) (p_held : Nat) (p_soonest : Nat) (v_trace : Int64) (v_typed : Int32) (v_noted : Int32) (v_at : Int32) (v_sort : Int32) (v_start : Int32) (v_value : Int32) (v_vanillaIn : Int32) (f_told : Nat → Int32) (f_s : Nat → Int32) (res : Int32 × (Nat → Int32)) (X : Cx p s m args meth c cX5_order 12 RX5 (some .int)) (hK : KK E A s s.heap) (hA : ∀ q, s.heap.size ≤ q → A q) (hret : RetI p l e (RM 4) s m args below meth c Q E A cX5_order .int (w_X5_order E p_this p_text p_told p_draft p_s p_images p_kept p_notes p_held p_soonest v_trace v_typed v_noted v_at v_sort v_start v_value v_vanillaIn f_told f_s res.2) res.1) (K105 : (Nat → Int32) → Int32 → Int32 → Int32 → Int32 → Int32 → Int32 → Int32 → Int32 → Int32 → Option (Int32 × (Nat → Int32))) (hK105 : ∀ (f_soonest : Nat → Int32) (x1 : Int32) (x2 : Int32) (x3 : Int32) (x4 : Int32) (x5 : Int32) (x6 : Int32) (x7 : Int32) (x8 : Int32) (x9 : Int32), K105 f_soonest x1 x2 x3 x4 x5 x6 x7 x8 x9 = some res → ∀ (H : Heap) (locs : List Loc) (ls : Array Slot), lv_has ls 12 [(0, .ref p_this), (1, .int x1), (2, .int x2), (3, .int x3), (4, .int x4), (5, .int x5), (6, .int x6), (7, .int x7), (8, .int x8), (9, .int x9)] → va_P E.1 classes (w_X5_order E p_this p_text p_told p_draft p_s p_images p_kept p_notes p_held p_soonest v_trace v_typed v_noted v_at v_sort v_start v_value v_vanillaIn f_told f_s f_soonest) H → va_D A (w_X5_order E p_this p_text p_told p_draft p_s p_images p_kept p_notes p_held p_soonest v_trace v_typed v_noted v_at v_sort v_start v_value v_vanillaIn f_told f_s f_soonest) → va_S A s.heap H locs → W p l e (RM 4) s m args below meth c H locs 0 0 Q (F0 m 105 ls [])) (K129 : (Nat → Int32) → Int32 → Int32 → Int32 → Int32 → Int32 → Int32 → Int32 → Int32 → Int32 → Int32 → Int32 → Option (Int32 × (Nat → Int32))) (hK129 : ∀ (f_soonest : Nat → Int32) (x1 : Int32) (x2 : Int32) (x3 : Int32) (x4 : Int32) (x5 : Int32) (x6 : Int32) (x7 : Int32) (x8 : Int32) (x9 : Int32) (x10 : Int32) (x11 : Int32), K129 f_soonest x1 x2 x3 x4 x5 x6 x7 x8 x9 x10 x11 = some res → ∀ (H : Heap) (locs : List Loc) (ls : Array Slot), lv_has ls 12 [(0, .ref p_this), (1, .int x1), (2, .int x2), (3, .int x3), (4, .int x4), (5, .int x5), (6, .int x6), (7, .int x7), (8, .int x8), (9, .int x9), (10, .int x10), (11, .int x11)] → va_P E.1 classes (w_X5_order E p_this p_text p_told p_draft p_s p_images p_kept p_notes p_held p_soonest v_trace v_typed v_noted v_at v_sort v_start v_value v_vanillaIn f_told f_s f_soonest) H → va_D A (w_X5_order E p_this p_text p_told p_draft p_s p_images p_kept p_notes p_held p_soonest v_trace v_typed v_noted v_at v_sort v_start v_value v_vanillaIn f_told f_s f_soonest) → va_S A s.heap H locs → W p l e (RM 4) s m args below meth c H locs 0 0 Q (F0 m 129 ls [])) (f_soonest : Nat → Int32) (x1 : Int32) (x2 : Int32) (x3 : Int32) (x4 : Int32) (x5 : Int32) (x6 : Int32) (x7 : Int32) (x9 : Int32) (x10 : Int32) (x11 : Int32) (k0 : Int32) (hf : f_X5_order_215 f_told f_s  K105 K129 f_soonest x1 x2 x3 x4 x5 x6 x7 x9 x10 x11 k0 = some res) : ∀ (H : Heap) (locs : List Loc) (ls : Array Slot), lv_has ls 12 [(0, .ref p_this), (1, .int x1), (2, .int x2), (3, .int x3), (4, .int x4), (5, .int x5), (6, .int x6), (7, .int x7), (9, .int x9), (10, .int x10), (11, .int x11)] → va_P E.1 classes (w_X5_order E p_this p_text p_told p_draft p_s p_images p_kept p_notes p_held p_soonest v_trace v_typed v_noted v_at v_sort v_start v_value v_vanillaIn f_told f_s f_soonest) H → va_D A (w_X5_order E p_this p_text p_told p_draft p_s p_images p_kept p_notes p_held p_soonest v_trace v_typed v_noted v_at v_sort v_start v_value v_vanillaIn f_told f_s f_soonest) → va_S A s.heap H locs → W p l e (RM 4) s m args below meth c H locs 0 0 Q (F0 m 215 ls [.int k0]) := by
  obtain ⟨hx, hb, hml, hown, hts, hrt, hlk⟩ := id X
  intro H locs ls hl hP hD hS
  unfold f_X5_order_215 at hf
  refine lv_istore (lv' := [(8, .int k0), (0, .ref p_this), (1, .int x1), (2, .int x2), (3, .int x3), (4, .int x4), (5, .int x5), (6, .int x6), (7, .int x7), (9, .int x9), (10, .int x10), (11, .int x11)]) hx hb dX5_order_215 hl (by decide) rfl (fun ls hl => ?_)
  refine lv_iinc (v := (x11 + (1 : Int32))) (lv' := [(11, .int (x11 + (1 : Int32))), (8, .int k0), (0, .ref p_this), (1, .int x1), (2, .int x2), (3, .int x3), (4, .int x4), (5, .int x5), (6, .int x6), (7, .int x7), (9, .int x9), (10, .int x10)]) hx hb dX5_order_217 hl (k := 11) rfl rfl (by decide) rfl (fun ls hl => ?_)
  refine lv_goto (tgt := 129) hx hb dX5_order_220 (by decide) ?_
  exact hK129 f_soonest x1 x2 x3 x4 x5 x6 x7 k0 x9 x10 (x11 + (1 : Int32)) hf H locs ls (lv_sub hl [2, 3, 4, 5, 6, 7, 8, 9, 1, 10, 11, 0] rfl) hP hD hS

set_option maxHeartbeats 4000000 in
set_option maxRecDepth 100000 in
theorem b_X5_order_173 {p : Program} {l : Launch} {e : Env} {s : State} {m : MethodId} {args : Array Value} {below : List Frame} {meth : Method} {c : Code} {Q : State → Prop} {A : Nat → Prop} (E : Ev) (p_this : Nat) (p_text : Nat) (p_told : Nat) (p_draft : Nat) (p_s : Nat) (p_images : Nat) (p_kept : Nat) (p_notes : Nat) (p_held : Nat) (p_soonest : Nat) (v_trace : Int64) (v_typed : Int32) (v_noted : Int32) (v_at : Int32) (v_sort : Int32) (v_start : Int32) (v_value : Int32) (v_vanillaIn : Int32) (f_told : Nat → Int32) (f_s : Nat → Int32) (res : Int32 × (Nat → Int32)) (X : Cx p s m args meth c cX5_order 12 RX5 (some .int)) (hK : KK E A s s.heap) (hA : ∀ q, s.heap.size ≤ q → A q) (hret : RetI p l e (RM 4) s m args below meth c Q E A cX5_order .int (w_X5_order E p_this p_text p_told p_draft p_s p_images p_kept p_notes p_held p_soonest v_trace v_typed v_noted v_at v_sort v_start v_value v_vanillaIn f_told f_s res.2) res.1) (K105 : (Nat → Int32) → Int32 → Int32 → Int32 → Int32 → Int32 → Int32 → Int32 → Int32 → Int32 → Option (Int32 × (Nat → Int32))) (hK105 : ∀ (f_soonest : Nat → Int32) (x1 : Int32) (x2 : Int32) (x3 : Int32) (x4 : Int32) (x5 : Int32) (x6 : Int32) (x7 : Int32) (x8 : Int32) (x9 : Int32), K105 f_soonest x1 x2 x3 x4 x5 x6 x7 x8 x9 = some res → ∀ (H : Heap) (locs : List Loc) (ls : Array Slot), lv_has ls 12 [(0, .ref p_this), (1, .int x1), (2, .int x2), (3, .int x3), (4, .int x4), (5, .int x5), (6, .int x6), (7, .int x7), (8, .int x8), (9, .int x9)] → va_P E.1 classes (w_X5_order E p_this p_text p_told p_draft p_s p_images p_kept p_notes p_held p_soonest v_trace v_typed v_noted v_at v_sort v_start v_value v_vanillaIn f_told f_s f_soonest) H → va_D A (w_X5_order E p_this p_text p_told p_draft p_s p_images p_kept p_notes p_held p_soonest v_trace v_typed v_noted v_at v_sort v_start v_value v_vanillaIn f_told f_s f_soonest) → va_S A s.heap H locs → W p l e (RM 4) s m args below meth c H locs 0 0 Q (F0 m 105 ls [])) (K129 : (Nat → Int32) → Int32 → Int32 → Int32 → Int32 → Int32 → Int32 → Int32 → Int32 → Int32 → Int32 → Int32 → Option (Int32 × (Nat → Int32))) (hK129 : ∀ (f_soonest : Nat → Int32) (x1 : Int32) (x2 : Int32) (x3 : Int32) (x4 : Int32) (x5 : Int32) (x6 : Int32) (x7 : Int32) (x8 : Int32) (x9 : Int32) (x10 : Int32) (x11 : Int32), K129 f_soonest x1 x2 x3 x4 x5 x6 x7 x8 x9 x10 x11 = some res → ∀ (H : Heap) (locs : List Loc) (ls : Array Slot), lv_has ls 12 [(0, .ref p_this), (1, .int x1), (2, .int x2), (3, .int x3), (4, .int x4), (5, .int x5), (6, .int x6), (7, .int x7), (8, .int x8), (9, .int x9), (10, .int x10), (11, .int x11)] → va_P E.1 classes (w_X5_order E p_this p_text p_told p_draft p_s p_images p_kept p_notes p_held p_soonest v_trace v_typed v_noted v_at v_sort v_start v_value v_vanillaIn f_told f_s f_soonest) H → va_D A (w_X5_order E p_this p_text p_told p_draft p_s p_images p_kept p_notes p_held p_soonest v_trace v_typed v_noted v_at v_sort v_start v_value v_vanillaIn f_told f_s f_soonest) → va_S A s.heap H locs → W p l e (RM 4) s m args below meth c H locs 0 0 Q (F0 m 129 ls [])) (f_soonest : Nat → Int32) (x1 : Int32) (x2 : Int32) (x3 : Int32) (x4 : Int32) (x5 : Int32) (x6 : Int32) (x7 : Int32) (x8 : Int32) (x9 : Int32) (x11 : Int32) (k0 : Int32) (hf : f_X5_order_173 f_told f_s  K105 K129 f_soonest x1 x2 x3 x4 x5 x6 x7 x8 x9 x11 k0 = some res) : ∀ (H : Heap) (locs : List Loc) (ls : Array Slot), lv_has ls 12 [(0, .ref p_this), (1, .int x1), (2, .int x2), (3, .int x3), (4, .int x4), (5, .int x5), (6, .int x6), (7, .int x7), (8, .int x8), (9, .int x9), (11, .int x11)] → va_P E.1 classes (w_X5_order E p_this p_text p_told p_draft p_s p_images p_kept p_notes p_held p_soonest v_trace v_typed v_noted v_at v_sort v_start v_value v_vanillaIn f_told f_s f_soonest) H → va_D A (w_X5_order E p_this p_text p_told p_draft p_s p_images p_kept p_notes p_held p_soonest v_trace v_typed v_noted v_at v_sort v_start v_value v_vanillaIn f_told f_s f_soonest) → va_S A s.heap H locs → W p l e (RM 4) s m args below meth c H locs 0 0 Q (F0 m 173 ls [.int k0]) := by
  obtain ⟨hx, hb, hml, hown, hts, hrt, hlk⟩ := id X
  intro H locs ls hl hP hD hS
  unfold f_X5_order_173 at hf
  refine lv_istore (lv' := [(10, .int k0), (0, .ref p_this), (1, .int x1), (2, .int x2), (3, .int x3), (4, .int x4), (5, .int x5), (6, .int x6), (7, .int x7), (8, .int x8), (9, .int x9), (11, .int x11)]) hx hb dX5_order_173 hl (by decide) rfl (fun ls hl => ?_)
  refine lv_iload hx hb dX5_order_175 (lv_at hl 0 rfl) ?_
  refine lv_bipush (v := (-9 : Int32)) hx hb dX5_order_177 (by decide) ?_
  refine lv_icmp_eq (tgt := 217) hx hb dX5_order_179 (by decide) (fun c_1 => ?_) (fun c_1 => ?_)
  · replace hf := ot c_1 hf
    refine lv_iinc (v := (x11 + (1 : Int32))) (lv' := [(11, .int (x11 + (1 : Int32))), (10, .int k0), (0, .ref p_this), (1, .int x1), (2, .int x2), (3, .int x3), (4, .int x4), (5, .int x5), (6, .int x6), (7, .int x7), (8, .int x8), (9, .int x9)]) hx hb dX5_order_217 hl (k := 11) rfl rfl (by decide) rfl (fun ls hl => ?_)
    refine lv_goto (tgt := 129) hx hb dX5_order_220 (by decide) ?_
    exact hK129 f_soonest x1 x2 x3 x4 x5 x6 x7 x8 x9 k0 (x11 + (1 : Int32)) hf H locs ls (lv_sub hl [2, 3, 4, 5, 6, 7, 8, 9, 10, 11, 1, 0] rfl) hP hD hS
  · replace hf := of c_1 hf
    refine lv_aload_n hx hb dX5_order_182 rfl (lv_at hl 1 rfl) ?_
    refine lv_iload_n hx hb dX5_order_183 rfl (lv_at hl 2 rfl) ?_
    refine lv_iload hx hb dX5_order_184 (lv_at hl 8 rfl) ?_
    refine lv_iconst (v := (1 : Int32)) hx hb dX5_order_186 (by decide) ?_
    refine lv_iload hx hb dX5_order_187 (lv_at hl 11 rfl) ?_
    refine lv_ishl hx hb dX5_order_189 ?_
    refine lv_ior hx hb dX5_order_190 ?_
    refine lv_iload hx hb dX5_order_191 (lv_at hl 0 rfl) ?_
    refine lv_iload_n hx hb dX5_order_193 rfl (lv_at hl 3 rfl) ?_
    obtain ⟨u_2, hu_2, hf⟩ := ob hf
    refine mVv X hK hA hP hD hS hl.1 (m_X5_reckons (l := l) E p_this p_text p_told p_draft p_s p_images p_kept p_notes p_held p_soonest v_trace v_typed v_noted v_at v_sort v_start v_value v_vanillaIn f_soonest f_told f_s x1 (x7 ||| ((1 : Int32) <<< (x11 &&& 31))) k0 x2 u_2 hu_2) kRX5_140 [0, 3, 1, 2] rfl rfl (by simp only [w_X5_reckons, List.map]) rfl rfl rfl ⟨⟨(Nat.le_of_ble_eq_true rfl), (Nat.le_of_ble_eq_true rfl)⟩, Nat.zero_le _, Nat.zero_le _⟩ rfl rfl (Nat.le_of_ble_eq_true rfl) dX5_order_194 (fun H locs hP hD hS => ?_)
    have hP : va_P E.1 classes (w_X5_order E p_this p_text p_told p_draft p_s p_images p_kept p_notes p_held p_soonest v_trace v_typed v_noted v_at v_sort v_start v_value v_vanillaIn f_told f_s u_2) H := hP
    have hD : va_D A (w_X5_order E p_this p_text p_told p_draft p_s p_images p_kept p_notes p_held p_soonest v_trace v_typed v_noted v_at v_sort v_start v_value v_vanillaIn f_told f_s u_2) := hD
    refine lv_aload_n hx hb dX5_order_197 rfl (lv_at hl 1 rfl) ?_
    refine lv_iload hx hb dX5_order_198 (lv_at hl 6 rfl) ?_
    obtain ⟨u_3, hu_3, hf⟩ := ob hf
    refine pV X hK hA hP hS hl.1 (m_X5_soonestOf (l := l) E p_this p_text p_told p_draft p_s p_images p_kept p_notes p_held p_soonest v_trace v_typed v_noted v_at v_sort v_start v_value v_vanillaIn f_told u_2 x5 u_3 hu_3) kRX5_144 [0, 1, 3] rfl rfl rfl rfl ⟨⟨(Nat.le_of_ble_eq_true rfl), (Nat.le_of_ble_eq_true rfl)⟩, Nat.zero_le _, Nat.zero_le _⟩ rfl rfl (Nat.le_of_ble_eq_true rfl) dX5_order_200 (fun H locs hP hS => ?_)
    refine lv_iload hx hb dX5_order_203 (lv_at hl 7 rfl) ?_
    refine lv_icmp_ne (tgt := 213) hx hb dX5_order_205 (by decide) (fun c_4 => ?_) (fun c_4 => ?_)
    · replace hf := of c_4 hf
      refine lv_bipush (v := (-9 : Int32)) hx hb dX5_order_213 (by decide) ?_
      exact b_X5_order_215 E p_this p_text p_told p_draft p_s p_images p_kept p_notes p_held p_soonest v_trace v_typed v_noted v_at v_sort v_start v_value v_vanillaIn f_told f_s res X hK hA hret  K105 hK105 K129 hK129 u_2 x1 x2 x3 x4 x5 x6 x7 x9 k0 x11 (-9 : Int32) hf H locs ls (lv_sub hl [1, 2, 3, 4, 5, 6, 7, 8, 10, 0, 11] rfl) hP hD hS
    · replace hf := ot c_4 hf
      refine lv_iload hx hb dX5_order_208 (lv_at hl 11 rfl) ?_
      refine lv_goto (tgt := 215) hx hb dX5_order_210 (by decide) ?_
      exact b_X5_order_215 E p_this p_text p_told p_draft p_s p_images p_kept p_notes p_held p_soonest v_trace v_typed v_noted v_at v_sort v_start v_value v_vanillaIn f_told f_s res X hK hA hret  K105 hK105 K129 hK129 u_2 x1 x2 x3 x4 x5 x6 x7 x9 k0 x11 x11 hf H locs ls (lv_sub hl [1, 2, 3, 4, 5, 6, 7, 8, 10, 0, 11] rfl) hP hD hS

set_option maxHeartbeats 4000000 in
set_option maxRecDepth 100000 in
theorem b_X5_order_129 {p : Program} {l : Launch} {e : Env} {s : State} {m : MethodId} {args : Array Value} {below : List Frame} {meth : Method} {c : Code} {Q : State → Prop} {A : Nat → Prop} (E : Ev) (p_this : Nat) (p_text : Nat) (p_told : Nat) (p_draft : Nat) (p_s : Nat) (p_images : Nat) (p_kept : Nat) (p_notes : Nat) (p_held : Nat) (p_soonest : Nat) (v_trace : Int64) (v_typed : Int32) (v_noted : Int32) (v_at : Int32) (v_sort : Int32) (v_start : Int32) (v_value : Int32) (v_vanillaIn : Int32) (f_told : Nat → Int32) (f_s : Nat → Int32) (res : Int32 × (Nat → Int32)) (X : Cx p s m args meth c cX5_order 12 RX5 (some .int)) (hK : KK E A s s.heap) (hA : ∀ q, s.heap.size ≤ q → A q) (hret : RetI p l e (RM 4) s m args below meth c Q E A cX5_order .int (w_X5_order E p_this p_text p_told p_draft p_s p_images p_kept p_notes p_held p_soonest v_trace v_typed v_noted v_at v_sort v_start v_value v_vanillaIn f_told f_s res.2) res.1) (K105 : (Nat → Int32) → Int32 → Int32 → Int32 → Int32 → Int32 → Int32 → Int32 → Int32 → Int32 → Option (Int32 × (Nat → Int32))) (hK105 : ∀ (f_soonest : Nat → Int32) (x1 : Int32) (x2 : Int32) (x3 : Int32) (x4 : Int32) (x5 : Int32) (x6 : Int32) (x7 : Int32) (x8 : Int32) (x9 : Int32), K105 f_soonest x1 x2 x3 x4 x5 x6 x7 x8 x9 = some res → ∀ (H : Heap) (locs : List Loc) (ls : Array Slot), lv_has ls 12 [(0, .ref p_this), (1, .int x1), (2, .int x2), (3, .int x3), (4, .int x4), (5, .int x5), (6, .int x6), (7, .int x7), (8, .int x8), (9, .int x9)] → va_P E.1 classes (w_X5_order E p_this p_text p_told p_draft p_s p_images p_kept p_notes p_held p_soonest v_trace v_typed v_noted v_at v_sort v_start v_value v_vanillaIn f_told f_s f_soonest) H → va_D A (w_X5_order E p_this p_text p_told p_draft p_s p_images p_kept p_notes p_held p_soonest v_trace v_typed v_noted v_at v_sort v_start v_value v_vanillaIn f_told f_s f_soonest) → va_S A s.heap H locs → W p l e (RM 4) s m args below meth c H locs 0 0 Q (F0 m 105 ls [])) : ∀ (n : Nat) (f_soonest : Nat → Int32) (x1 : Int32) (x2 : Int32) (x3 : Int32) (x4 : Int32) (x5 : Int32) (x6 : Int32) (x7 : Int32) (x8 : Int32) (x9 : Int32) (x10 : Int32) (x11 : Int32), f_X5_order_129 f_told f_s  K105 n f_soonest x1 x2 x3 x4 x5 x6 x7 x8 x9 x10 x11 = some res → ∀ (H : Heap) (locs : List Loc) (ls : Array Slot), lv_has ls 12 [(0, .ref p_this), (1, .int x1), (2, .int x2), (3, .int x3), (4, .int x4), (5, .int x5), (6, .int x6), (7, .int x7), (8, .int x8), (9, .int x9), (10, .int x10), (11, .int x11)] → va_P E.1 classes (w_X5_order E p_this p_text p_told p_draft p_s p_images p_kept p_notes p_held p_soonest v_trace v_typed v_noted v_at v_sort v_start v_value v_vanillaIn f_told f_s f_soonest) H → va_D A (w_X5_order E p_this p_text p_told p_draft p_s p_images p_kept p_notes p_held p_soonest v_trace v_typed v_noted v_at v_sort v_start v_value v_vanillaIn f_told f_s f_soonest) → va_S A s.heap H locs → W p l e (RM 4) s m args below meth c H locs 0 0 Q (F0 m 129 ls []) := by
  obtain ⟨hx, hb, hml, hown, hts, hrt, hlk⟩ := id X
  intro n
  induction n with
  | zero => intro f_soonest x1 x2 x3 x4 x5 x6 x7 x8 x9 x10 x11 hf; exact absurd hf (by simp [f_X5_order_129])
  | succ n ih =>
    intro f_soonest x1 x2 x3 x4 x5 x6 x7 x8 x9 x10 x11 hf H locs ls hl hP hD hS
    unfold f_X5_order_129 at hf
    refine lv_iload hx hb dX5_order_129 (lv_at hl 11 rfl) ?_
    refine lv_aload_n hx hb dX5_order_131 rfl (lv_at hl 0 rfl) ?_
    refine gf_RX5_13 X hK hP 0 rfl rfl dX5_order_132 ?_
    refine lv_iconst (v := (1 : Int32)) hx hb dX5_order_135 (by decide) ?_
    refine iald X hK hP 1 rfl 1 (by decide) (by decide) dX5_order_136 ?_
    refine lv_icmp_ge (tgt := 223) hx hb dX5_order_137 (by decide) (fun c_2 => ?_) (fun c_2 => ?_)
    · replace hf := ot c_2 hf
      exact b_X5_order_223 E p_this p_text p_told p_draft p_s p_images p_kept p_notes p_held p_soonest v_trace v_typed v_noted v_at v_sort v_start v_value v_vanillaIn f_told f_s res X hK hA hret  K105 hK105 f_soonest x1 x2 x3 x5 x6 x7 x8 x9 x10 hf H locs ls (lv_sub hl [0, 1, 2, 3, 5, 6, 7, 8, 9, 10] rfl) hP hD hS
    · replace hf := of c_2 hf
      refine lv_iload hx hb dX5_order_140 (lv_at hl 8 rfl) ?_
      refine lv_bipush (v := (-9 : Int32)) hx hb dX5_order_142 (by decide) ?_
      refine lv_icmp_ne (tgt := 223) hx hb dX5_order_144 (by decide) (fun c_3 => ?_) (fun c_3 => ?_)
      · replace hf := of c_3 hf
        exact b_X5_order_223 E p_this p_text p_told p_draft p_s p_images p_kept p_notes p_held p_soonest v_trace v_typed v_noted v_at v_sort v_start v_value v_vanillaIn f_told f_s res X hK hA hret  K105 hK105 f_soonest x1 x2 x3 x5 x6 x7 x8 x9 x10 hf H locs ls (lv_sub hl [0, 1, 2, 3, 5, 6, 7, 8, 9, 10] rfl) hP hD hS
      · replace hf := ot c_3 hf
        refine lv_iload hx hb dX5_order_147 (lv_at hl 7 rfl) ?_
        refine lv_iload hx hb dX5_order_149 (lv_at hl 11 rfl) ?_
        refine lv_ishr hx hb dX5_order_151 ?_
        refine lv_iconst (v := (1 : Int32)) hx hb dX5_order_152 (by decide) ?_
        refine lv_iand hx hb dX5_order_153 ?_
        refine lv_iconst (v := (1 : Int32)) hx hb dX5_order_154 (by decide) ?_
        refine lv_icmp_ne (tgt := 163) hx hb dX5_order_155 (by decide) (fun c_4 => ?_) (fun c_4 => ?_)
        · replace hf := of c_4 hf
          refine lv_aload_n hx hb dX5_order_163 rfl (lv_at hl 0 rfl) ?_
          refine lv_iload hx hb dX5_order_164 (lv_at hl 11 rfl) ?_
          refine lv_iload_n hx hb dX5_order_166 rfl (lv_at hl 1 rfl) ?_
          refine lv_iload hx hb dX5_order_167 (lv_at hl 4 rfl) ?_
          refine lv_iload_n hx hb dX5_order_169 rfl (lv_at hl 2 rfl) ?_
          obtain ⟨u_5, hu_5, hf⟩ := ob hf
          refine pV X hK hA hP hS hl.1 (m_X5_doneBy (l := l) E p_this p_text p_told p_draft p_s p_images p_kept p_notes p_held p_soonest v_trace v_typed v_noted v_at v_sort v_start v_value v_vanillaIn f_told f_s x11 x1 x4 x2 u_5 hu_5) kRX5_136 [0, 1, 2] rfl rfl rfl rfl ⟨⟨(Nat.le_of_ble_eq_true rfl), (Nat.le_of_ble_eq_true rfl)⟩, Nat.zero_le _, Nat.zero_le _⟩ rfl rfl (Nat.le_of_ble_eq_true rfl) dX5_order_170 (fun H locs hP hS => ?_)
          exact b_X5_order_173 E p_this p_text p_told p_draft p_s p_images p_kept p_notes p_held p_soonest v_trace v_typed v_noted v_at v_sort v_start v_value v_vanillaIn f_told f_s res X hK hA hret  K105 hK105 (f_X5_order_129 f_told f_s  K105 n) ih f_soonest x1 x2 x3 x4 x5 x6 x7 x8 x9 x11 u_5 hf H locs ls (lv_sub hl [0, 1, 2, 3, 4, 5, 6, 7, 8, 9, 11] rfl) hP hD hS
        · replace hf := ot c_4 hf
          refine lv_bipush (v := (-9 : Int32)) hx hb dX5_order_158 (by decide) ?_
          refine lv_goto (tgt := 173) hx hb dX5_order_160 (by decide) ?_
          exact b_X5_order_173 E p_this p_text p_told p_draft p_s p_images p_kept p_notes p_held p_soonest v_trace v_typed v_noted v_at v_sort v_start v_value v_vanillaIn f_told f_s res X hK hA hret  K105 hK105 (f_X5_order_129 f_told f_s  K105 n) ih f_soonest x1 x2 x3 x4 x5 x6 x7 x8 x9 x11 (-9 : Int32) hf H locs ls (lv_sub hl [0, 1, 2, 3, 4, 5, 6, 7, 8, 9, 11] rfl) hP hD hS

set_option maxHeartbeats 4000000 in
set_option maxRecDepth 100000 in
theorem b_X5_order_105 {p : Program} {l : Launch} {e : Env} {s : State} {m : MethodId} {args : Array Value} {below : List Frame} {meth : Method} {c : Code} {Q : State → Prop} {A : Nat → Prop} (E : Ev) (p_this : Nat) (p_text : Nat) (p_told : Nat) (p_draft : Nat) (p_s : Nat) (p_images : Nat) (p_kept : Nat) (p_notes : Nat) (p_held : Nat) (p_soonest : Nat) (v_trace : Int64) (v_typed : Int32) (v_noted : Int32) (v_at : Int32) (v_sort : Int32) (v_start : Int32) (v_value : Int32) (v_vanillaIn : Int32) (f_told : Nat → Int32) (f_s : Nat → Int32) (res : Int32 × (Nat → Int32)) (X : Cx p s m args meth c cX5_order 12 RX5 (some .int)) (hK : KK E A s s.heap) (hA : ∀ q, s.heap.size ≤ q → A q) (hret : RetI p l e (RM 4) s m args below meth c Q E A cX5_order .int (w_X5_order E p_this p_text p_told p_draft p_s p_images p_kept p_notes p_held p_soonest v_trace v_typed v_noted v_at v_sort v_start v_value v_vanillaIn f_told f_s res.2) res.1)  : ∀ (n : Nat) (f_soonest : Nat → Int32) (x1 : Int32) (x2 : Int32) (x3 : Int32) (x4 : Int32) (x5 : Int32) (x6 : Int32) (x7 : Int32) (x8 : Int32) (x9 : Int32), f_X5_order_105 f_told f_s   n f_soonest x1 x2 x3 x4 x5 x6 x7 x8 x9 = some res → ∀ (H : Heap) (locs : List Loc) (ls : Array Slot), lv_has ls 12 [(0, .ref p_this), (1, .int x1), (2, .int x2), (3, .int x3), (4, .int x4), (5, .int x5), (6, .int x6), (7, .int x7), (8, .int x8), (9, .int x9)] → va_P E.1 classes (w_X5_order E p_this p_text p_told p_draft p_s p_images p_kept p_notes p_held p_soonest v_trace v_typed v_noted v_at v_sort v_start v_value v_vanillaIn f_told f_s f_soonest) H → va_D A (w_X5_order E p_this p_text p_told p_draft p_s p_images p_kept p_notes p_held p_soonest v_trace v_typed v_noted v_at v_sort v_start v_value v_vanillaIn f_told f_s f_soonest) → va_S A s.heap H locs → W p l e (RM 4) s m args below meth c H locs 0 0 Q (F0 m 105 ls []) := by
  obtain ⟨hx, hb, hml, hown, hts, hrt, hlk⟩ := id X
  intro n
  induction n with
  | zero => intro f_soonest x1 x2 x3 x4 x5 x6 x7 x8 x9 hf; exact absurd hf (by simp [f_X5_order_105])
  | succ n ih =>
    intro f_soonest x1 x2 x3 x4 x5 x6 x7 x8 x9 hf H locs ls hl hP hD hS
    unfold f_X5_order_105 at hf
    refine lv_iload hx hb dX5_order_105 (lv_at hl 9 rfl) ?_
    refine lv_iload_n hx hb dX5_order_107 rfl (lv_at hl 3 rfl) ?_
    refine lv_icmp_gt (tgt := 242) hx hb dX5_order_108 (by decide) (fun c_1 => ?_) (fun c_1 => ?_)
    · replace hf := ot c_1 hf
      exact b_X5_order_242 E p_this p_text p_told p_draft p_s p_images p_kept p_notes p_held p_soonest v_trace v_typed v_noted v_at v_sort v_start v_value v_vanillaIn f_told f_s res X hK hA hret   f_soonest x3 x5 x8 hf H locs ls (lv_sub hl [3, 5, 8] rfl) hP hD hS
    · replace hf := of c_1 hf
      refine lv_iload hx hb dX5_order_111 (lv_at hl 9 rfl) ?_
      refine lv_iload hx hb dX5_order_113 (lv_at hl 5 rfl) ?_
      refine lv_icmp_ge (tgt := 242) hx hb dX5_order_115 (by decide) (fun c_2 => ?_) (fun c_2 => ?_)
      · replace hf := ot c_2 hf
        exact b_X5_order_242 E p_this p_text p_told p_draft p_s p_images p_kept p_notes p_held p_soonest v_trace v_typed v_noted v_at v_sort v_start v_value v_vanillaIn f_told f_s res X hK hA hret   f_soonest x3 x5 x8 hf H locs ls (lv_sub hl [3, 5, 8] rfl) hP hD hS
      · replace hf := of c_2 hf
        refine lv_bipush (v := (-9 : Int32)) hx hb dX5_order_118 (by decide) ?_
        refine lv_istore (lv' := [(8, .int (-9 : Int32)), (0, .ref p_this), (1, .int x1), (2, .int x2), (3, .int x3), (4, .int x4), (5, .int x5), (6, .int x6), (7, .int x7), (9, .int x9)]) hx hb dX5_order_120 hl (by decide) rfl (fun ls hl => ?_)
        refine lv_bipush (v := (-9 : Int32)) hx hb dX5_order_122 (by decide) ?_
        refine lv_istore (lv' := [(10, .int (-9 : Int32)), (8, .int (-9 : Int32)), (0, .ref p_this), (1, .int x1), (2, .int x2), (3, .int x3), (4, .int x4), (5, .int x5), (6, .int x6), (7, .int x7), (9, .int x9)]) hx hb dX5_order_124 hl (by decide) rfl (fun ls hl => ?_)
        refine lv_iconst (v := (0 : Int32)) hx hb dX5_order_126 (by decide) ?_
        refine lv_istore (lv' := [(11, .int (0 : Int32)), (10, .int (-9 : Int32)), (8, .int (-9 : Int32)), (0, .ref p_this), (1, .int x1), (2, .int x2), (3, .int x3), (4, .int x4), (5, .int x5), (6, .int x6), (7, .int x7), (9, .int x9)]) hx hb dX5_order_127 hl (by decide) rfl (fun ls hl => ?_)
        exact b_X5_order_129 E p_this p_text p_told p_draft p_s p_images p_kept p_notes p_held p_soonest v_trace v_typed v_noted v_at v_sort v_start v_value v_vanillaIn f_told f_s res X hK hA hret  (f_X5_order_105 f_told f_s   n) ih FU f_soonest x1 x2 x3 x4 x5 x6 x7 (-9 : Int32) x9 (-9 : Int32) (0 : Int32) hf H locs ls (lv_sub hl [3, 4, 5, 6, 7, 8, 9, 10, 2, 11, 1, 0] rfl) hP hD hS

set_option maxHeartbeats 4000000 in
set_option maxRecDepth 100000 in
theorem b_X5_order_53 {p : Program} {l : Launch} {e : Env} {s : State} {m : MethodId} {args : Array Value} {below : List Frame} {meth : Method} {c : Code} {Q : State → Prop} {A : Nat → Prop} (E : Ev) (p_this : Nat) (p_text : Nat) (p_told : Nat) (p_draft : Nat) (p_s : Nat) (p_images : Nat) (p_kept : Nat) (p_notes : Nat) (p_held : Nat) (p_soonest : Nat) (v_trace : Int64) (v_typed : Int32) (v_noted : Int32) (v_at : Int32) (v_sort : Int32) (v_start : Int32) (v_value : Int32) (v_vanillaIn : Int32) (f_told : Nat → Int32) (f_s : Nat → Int32) (res : Int32 × (Nat → Int32)) (X : Cx p s m args meth c cX5_order 12 RX5 (some .int)) (hK : KK E A s s.heap) (hA : ∀ q, s.heap.size ≤ q → A q) (hret : RetI p l e (RM 4) s m args below meth c Q E A cX5_order .int (w_X5_order E p_this p_text p_told p_draft p_s p_images p_kept p_notes p_held p_soonest v_trace v_typed v_noted v_at v_sort v_start v_value v_vanillaIn f_told f_s res.2) res.1)  : ∀ (n : Nat) (f_soonest : Nat → Int32) (x1 : Int32) (x2 : Int32) (x3 : Int32) (x4 : Int32) (x5 : Int32), f_X5_order_53 f_told f_s   n f_soonest x1 x2 x3 x4 x5 = some res → ∀ (H : Heap) (locs : List Loc) (ls : Array Slot), lv_has ls 12 [(0, .ref p_this), (1, .int x1), (2, .int x2), (3, .int x3), (4, .int x4), (5, .int x5)] → va_P E.1 classes (w_X5_order E p_this p_text p_told p_draft p_s p_images p_kept p_notes p_held p_soonest v_trace v_typed v_noted v_at v_sort v_start v_value v_vanillaIn f_told f_s f_soonest) H → va_D A (w_X5_order E p_this p_text p_told p_draft p_s p_images p_kept p_notes p_held p_soonest v_trace v_typed v_noted v_at v_sort v_start v_value v_vanillaIn f_told f_s f_soonest) → va_S A s.heap H locs → W p l e (RM 4) s m args below meth c H locs 0 0 Q (F0 m 53 ls []) := by
  obtain ⟨hx, hb, hml, hown, hts, hrt, hlk⟩ := id X
  intro n
  induction n with
  | zero => intro f_soonest x1 x2 x3 x4 x5 hf; exact absurd hf (by simp [f_X5_order_53])
  | succ n ih =>
    intro f_soonest x1 x2 x3 x4 x5 hf H locs ls hl hP hD hS
    unfold f_X5_order_53 at hf
    refine lv_aload_n hx hb dX5_order_53 rfl (lv_at hl 0 rfl) ?_
    refine lv_iload hx hb dX5_order_54 (lv_at hl 5 rfl) ?_
    obtain ⟨u_1, hu_1, hf⟩ := ob hf
    refine pV X hK hA hP hS hl.1 (m_X5_soonestOf (l := l) E p_this p_text p_told p_draft p_s p_images p_kept p_notes p_held p_soonest v_trace v_typed v_noted v_at v_sort v_start v_value v_vanillaIn f_told f_soonest x5 u_1 hu_1) kRX5_144 [0, 1, 3] rfl rfl rfl rfl ⟨⟨(Nat.le_of_ble_eq_true rfl), (Nat.le_of_ble_eq_true rfl)⟩, Nat.zero_le _, Nat.zero_le _⟩ rfl rfl (Nat.le_of_ble_eq_true rfl) dX5_order_56 (fun H locs hP hS => ?_)
    refine lv_bipush (v := (-9 : Int32)) hx hb dX5_order_59 (by decide) ?_
    refine lv_icmp_ne (tgt := 70) hx hb dX5_order_61 (by decide) (fun c_2 => ?_) (fun c_2 => ?_)
    · replace hf := of c_2 hf
      refine lv_aload_n hx hb dX5_order_70 rfl (lv_at hl 0 rfl) ?_
      refine lv_iload hx hb dX5_order_71 (lv_at hl 5 rfl) ?_
      obtain ⟨u_3, hu_3, hf⟩ := ob hf
      refine pV X hK hA hP hS hl.1 (m_X5_soonestOf (l := l) E p_this p_text p_told p_draft p_s p_images p_kept p_notes p_held p_soonest v_trace v_typed v_noted v_at v_sort v_start v_value v_vanillaIn f_told f_soonest x5 u_3 hu_3) kRX5_144 [0, 1, 3] rfl rfl rfl rfl ⟨⟨(Nat.le_of_ble_eq_true rfl), (Nat.le_of_ble_eq_true rfl)⟩, Nat.zero_le _, Nat.zero_le _⟩ rfl rfl (Nat.le_of_ble_eq_true rfl) dX5_order_73 (fun H locs hP hS => ?_)
      refine lv_istore (lv' := [(6, .int u_3), (0, .ref p_this), (1, .int x1), (2, .int x2), (3, .int x3), (4, .int x4), (5, .int x5)]) hx hb dX5_order_76 hl (by decide) rfl (fun ls hl => ?_)
      refine lv_iload_n hx hb dX5_order_78 rfl (lv_at hl 4 rfl) ?_
      refine lv_if_ge (tgt := 95) hx hb dX5_order_79 (by decide) (fun c_4 => ?_) (fun c_4 => ?_)
      · replace hf := ot c_4 hf
        refine lv_iconst (v := (0 : Int32)) hx hb dX5_order_95 (by decide) ?_
        refine lv_istore (lv' := [(7, .int (0 : Int32)), (6, .int u_3), (0, .ref p_this), (1, .int x1), (2, .int x2), (3, .int x3), (4, .int x4), (5, .int x5)]) hx hb dX5_order_96 hl (by decide) rfl (fun ls hl => ?_)
        refine lv_bipush (v := (-9 : Int32)) hx hb dX5_order_98 (by decide) ?_
        refine lv_istore (lv' := [(8, .int (-9 : Int32)), (7, .int (0 : Int32)), (6, .int u_3), (0, .ref p_this), (1, .int x1), (2, .int x2), (3, .int x3), (4, .int x4), (5, .int x5)]) hx hb dX5_order_100 hl (by decide) rfl (fun ls hl => ?_)
        refine lv_iconst (v := (0 : Int32)) hx hb dX5_order_102 (by decide) ?_
        refine lv_istore (lv' := [(9, .int (0 : Int32)), (8, .int (-9 : Int32)), (7, .int (0 : Int32)), (6, .int u_3), (0, .ref p_this), (1, .int x1), (2, .int x2), (3, .int x3), (4, .int x4), (5, .int x5)]) hx hb dX5_order_103 hl (by decide) rfl (fun ls hl => ?_)
        exact b_X5_order_105 E p_this p_text p_told p_draft p_s p_images p_kept p_notes p_held p_soonest v_trace v_typed v_noted v_at v_sort v_start v_value v_vanillaIn f_told f_s res X hK hA hret   FU f_soonest x1 x2 x3 x4 x5 u_3 (0 : Int32) (-9 : Int32) (0 : Int32) hf H locs ls (lv_sub hl [4, 5, 6, 7, 8, 9, 3, 2, 1, 0] rfl) hP hD hS
      · replace hf := of c_4 hf
        refine lv_iload_n hx hb dX5_order_82 rfl (lv_at hl 4 rfl) ?_
        refine lv_iconst (v := (-1 : Int32)) hx hb dX5_order_83 (by decide) ?_
        refine lv_icmp_ne (tgt := 92) hx hb dX5_order_84 (by decide) (fun c_5 => ?_) (fun c_5 => ?_)
        · replace hf := of c_5 hf
          refine lv_iload hx hb dX5_order_92 (lv_at hl 0 rfl) ?_
          obtain rfl := Option.some.inj hf
          exact hret H locs _ ls rfl hP hS dX5_order_94
        · replace hf := ot c_5 hf
          refine lv_iload hx hb dX5_order_87 (lv_at hl 6 rfl) ?_
          refine lv_goto (tgt := 94) hx hb dX5_order_89 (by decide) ?_
          obtain rfl := Option.some.inj hf
          exact hret H locs _ ls rfl hP hS dX5_order_94
    · replace hf := ot c_2 hf
      refine lv_iinc (v := (x5 + (-1 : Int32))) (lv' := [(5, .int (x5 + (-1 : Int32))), (0, .ref p_this), (1, .int x1), (2, .int x2), (3, .int x3), (4, .int x4)]) hx hb dX5_order_64 hl (k := 5) rfl rfl (by decide) rfl (fun ls hl => ?_)
      refine lv_goto (tgt := 53) hx hb dX5_order_67 (by decide) ?_
      exact ih f_soonest x1 x2 x3 x4 (x5 + (-1 : Int32)) hf H locs ls (lv_sub hl [1, 2, 3, 4, 5, 0] rfl) hP hD hS

set_option maxHeartbeats 4000000 in
set_option maxRecDepth 100000 in
theorem m_X5_order {l : Launch} (E : Ev) (p_this : Nat) (p_text : Nat) (p_told : Nat) (p_draft : Nat) (p_s : Nat) (p_images : Nat) (p_kept : Nat) (p_notes : Nat) (p_held : Nat) (p_soonest : Nat) (v_trace : Int64) (v_typed : Int32) (v_noted : Int32) (v_at : Int32) (v_sort : Int32) (v_start : Int32) (v_value : Int32) (v_vanillaIn : Int32) (f_told : Nat → Int32) (f_s : Nat → Int32) (f_soonest : Nat → Int32) (x1 : Int32) (x2 : Int32) (x3 : Int32) (res : Int32 × (Nat → Int32)) (hf : f_X5_order  f_told f_s f_soonest x1 x2 x3 = some res) : MutI l E 4 yX5_order cX5_order 12 .int [.ref p_this, .int x1, .int x2, .int x3] (w_X5_order E p_this p_text p_told p_draft p_s p_images p_kept p_notes p_held p_soonest v_trace v_typed v_noted v_at v_sort v_start v_value v_vanillaIn f_told f_s f_soonest) (w_X5_order E p_this p_text p_told p_draft p_s p_images p_kept p_notes p_held p_soonest v_trace v_typed v_noted v_at v_sort v_start v_value v_vanillaIn f_told f_s res.2) res.1 := by
  refine MutI.of (by decide) (Nat.le_of_ble_eq_true rfl) ?_
  intro p e s m args below meth c Q A X hK hA hret H locs ls hl hP hD hS
  obtain ⟨hx, hb, hml, hown, hts, hrt, hlk⟩ := id X
  have hl : lv_has ls 12 [(0, .ref p_this), (1, .int x1), (2, .int x2), (3, .int x3)] := hl
  unfold f_X5_order at hf
  refine lv_aload_n hx hb dX5_order_0 rfl (lv_at hl 0 rfl) ?_
  refine lv_iload_n hx hb dX5_order_1 rfl (lv_at hl 1 rfl) ?_
  obtain ⟨u_1, hu_1, hf⟩ := ob hf
  refine pV X hK hA hP hS hl.1 (m_X5_isOven (l := l) E p_this p_text p_told p_draft p_s p_images p_kept p_notes p_held p_soonest v_trace v_typed v_noted v_at v_sort v_start v_value v_vanillaIn f_told x1 u_1 hu_1) kRX5_97 [0, 1] rfl rfl rfl rfl ⟨⟨(Nat.le_of_ble_eq_true rfl), (Nat.le_of_ble_eq_true rfl)⟩, Nat.zero_le _, Nat.zero_le _⟩ rfl rfl (Nat.le_of_ble_eq_true rfl) dX5_order_2 (fun H locs hP hS => ?_)
  refine lv_if_eq (tgt := 29) hx hb dX5_order_5 (by decide) (fun c_2 => ?_) (fun c_2 => ?_)
  · replace hf := ot c_2 hf
    refine lv_iconst (v := (-1 : Int32)) hx hb dX5_order_29 (by decide) ?_
    obtain rfl := Option.some.inj hf
    exact hret H locs _ ls rfl hP hS dX5_order_30
  · replace hf := of c_2 hf
    refine lv_iload_n hx hb dX5_order_8 rfl (lv_at hl 2 rfl) ?_
    refine lv_iconst (v := (0 : Int32)) hx hb dX5_order_9 (by decide) ?_
    refine lv_sipush (v := (999 : Int32)) hx hb dX5_order_10 (by decide) ?_
    obtain ⟨u_3, hu_3, hf⟩ := ob hf
    refine pS X hK hA hP hS hl.1 (m_X5_in (l := l) E   x2 (0 : Int32) (999 : Int32) u_3 hu_3) kRX5_49 ⟨⟨(Nat.le_of_ble_eq_true rfl), (Nat.le_of_ble_eq_true rfl)⟩, Nat.zero_le _, Nat.zero_le _⟩ rfl rfl (Nat.le_of_ble_eq_true rfl) dX5_order_13 (fun H locs hP hS => ?_)
    refine lv_if_eq (tgt := 29) hx hb dX5_order_16 (by decide) (fun c_4 => ?_) (fun c_4 => ?_)
    · replace hf := ot c_4 hf
      refine lv_iconst (v := (-1 : Int32)) hx hb dX5_order_29 (by decide) ?_
      obtain rfl := Option.some.inj hf
      exact hret H locs _ ls rfl hP hS dX5_order_30
    · replace hf := of c_4 hf
      refine lv_iload_n hx hb dX5_order_19 rfl (lv_at hl 3 rfl) ?_
      refine lv_bipush (v := (-2 : Int32)) hx hb dX5_order_20 (by decide) ?_
      refine lv_iconst (v := (5 : Int32)) hx hb dX5_order_22 (by decide) ?_
      obtain ⟨u_5, hu_5, hf⟩ := ob hf
      refine pS X hK hA hP hS hl.1 (m_X5_in (l := l) E   x3 (-2 : Int32) (5 : Int32) u_5 hu_5) kRX5_49 ⟨⟨(Nat.le_of_ble_eq_true rfl), (Nat.le_of_ble_eq_true rfl)⟩, Nat.zero_le _, Nat.zero_le _⟩ rfl rfl (Nat.le_of_ble_eq_true rfl) dX5_order_23 (fun H locs hP hS => ?_)
      refine lv_if_ne (tgt := 31) hx hb dX5_order_26 (by decide) (fun c_6 => ?_) (fun c_6 => ?_)
      · replace hf := of c_6 hf
        refine lv_aload_n hx hb dX5_order_31 rfl (lv_at hl 0 rfl) ?_
        refine gf_RX5_19 X hK hP 0 rfl rfl dX5_order_32 ?_
        refine lv_bipush (v := (13 : Int32)) hx hb dX5_order_35 (by decide) ?_
        refine iald X hK hP 2 rfl 13 (by decide) (by decide) dX5_order_37 ?_
        refine lv_istore (lv' := [(4, .int (f_s 13)), (0, .ref p_this), (1, .int x1), (2, .int x2), (3, .int x3)]) hx hb dX5_order_38 hl (by decide) rfl (fun ls hl => ?_)
        refine lv_aload_n hx hb dX5_order_40 rfl (lv_at hl 1 rfl) ?_
        refine lv_iload_n hx hb dX5_order_41 rfl (lv_at hl 2 rfl) ?_
        refine lv_iconst (v := (0 : Int32)) hx hb dX5_order_42 (by decide) ?_
        refine lv_iload hx hb dX5_order_43 (lv_at hl 0 rfl) ?_
        refine lv_iload_n hx hb dX5_order_45 rfl (lv_at hl 3 rfl) ?_
        obtain ⟨u_8, hu_8, hf⟩ := ob hf
        refine mVv X hK hA hP hD hS hl.1 (m_X5_reckons (l := l) E p_this p_text p_told p_draft p_s p_images p_kept p_notes p_held p_soonest v_trace v_typed v_noted v_at v_sort v_start v_value v_vanillaIn f_soonest f_told f_s x1 (0 : Int32) (f_s 13) x2 u_8 hu_8) kRX5_140 [0, 3, 1, 2] rfl rfl (by simp only [w_X5_reckons, List.map]) rfl rfl rfl ⟨⟨(Nat.le_of_ble_eq_true rfl), (Nat.le_of_ble_eq_true rfl)⟩, Nat.zero_le _, Nat.zero_le _⟩ rfl rfl (Nat.le_of_ble_eq_true rfl) dX5_order_46 (fun H locs hP hD hS => ?_)
        have hP : va_P E.1 classes (w_X5_order E p_this p_text p_told p_draft p_s p_images p_kept p_notes p_held p_soonest v_trace v_typed v_noted v_at v_sort v_start v_value v_vanillaIn f_told f_s u_8) H := hP
        have hD : va_D A (w_X5_order E p_this p_text p_told p_draft p_s p_images p_kept p_notes p_held p_soonest v_trace v_typed v_noted v_at v_sort v_start v_value v_vanillaIn f_told f_s u_8) := hD
        refine lv_bipush (v := (6 : Int32)) hx hb dX5_order_49 (by decide) ?_
        refine lv_istore (lv' := [(5, .int (6 : Int32)), (4, .int (f_s 13)), (0, .ref p_this), (1, .int x1), (2, .int x2), (3, .int x3)]) hx hb dX5_order_51 hl (by decide) rfl (fun ls hl => ?_)
        exact b_X5_order_53 E p_this p_text p_told p_draft p_s p_images p_kept p_notes p_held p_soonest v_trace v_typed v_noted v_at v_sort v_start v_value v_vanillaIn f_told f_s res X hK hA hret   FU u_8 x1 x2 x3 (f_s 13) (6 : Int32) hf H locs ls (lv_sub hl [2, 3, 4, 5, 1, 0] rfl) hP hD hS
      · replace hf := ot c_6 hf
        refine lv_iconst (v := (-1 : Int32)) hx hb dX5_order_29 (by decide) ?_
        obtain rfl := Option.some.inj hf
        exact hret H locs _ ls rfl hP hS dX5_order_30

abbrev w_X5_fire (E : Ev) (p_this : Nat) (p_text : Nat) (p_told : Nat) (p_draft : Nat) (p_s : Nat) (p_images : Nat) (p_kept : Nat) (p_notes : Nat) (p_held : Nat) (p_soonest : Nat) (v_trace : Int64) (v_typed : Int32) (v_noted : Int32) (v_at : Int32) (v_sort : Int32) (v_start : Int32) (v_value : Int32) (v_vanillaIn : Int32) (f_told : Nat → Int32) : va_W := [(p_this, .inr (5, [.long v_trace, .ref p_text, .int v_typed, .ref p_told, .ref p_draft, .ref p_s, .ref p_images, .ref p_kept, .ref p_notes, .int v_noted, .int v_at, .int v_sort, .int v_start, .int v_value, .int v_vanillaIn, .ref p_held, .ref p_soonest])), (p_told, .inl (E.2.1, 43, .inl f_told))]
set_option maxHeartbeats 4000000 in
set_option maxRecDepth 100000 in
theorem m_X5_fire {l : Launch} (E : Ev) (p_this : Nat) (p_text : Nat) (p_told : Nat) (p_draft : Nat) (p_s : Nat) (p_images : Nat) (p_kept : Nat) (p_notes : Nat) (p_held : Nat) (p_soonest : Nat) (v_trace : Int64) (v_typed : Int32) (v_noted : Int32) (v_at : Int32) (v_sort : Int32) (v_start : Int32) (v_value : Int32) (v_vanillaIn : Int32) (f_told : Nat → Int32) (x1 : Int32) (x2 : Int32) (res : Int32) (hf : f_X5_fire  f_told x1 x2 = some res) : PureI l E 3 yX5_fire cX5_fire 4 .int [.ref p_this, .int x1, .int x2] (w_X5_fire E p_this p_text p_told p_draft p_s p_images p_kept p_notes p_held p_soonest v_trace v_typed v_noted v_at v_sort v_start v_value v_vanillaIn f_told) res := by
  refine PureI.of (by decide) (Nat.le_of_ble_eq_true rfl) ?_
  intro p e s m args below meth c Q A X hK hA hret H locs ls hl hP hS
  obtain ⟨hx, hb, hml, hown, hts, hrt, hlk⟩ := id X
  have hl : lv_has ls 4 [(0, .ref p_this), (1, .int x1), (2, .int x2)] := hl
  unfold f_X5_fire at hf
  refine lv_aload_n hx hb dX5_fire_0 rfl (lv_at hl 0 rfl) ?_
  refine lv_iload_n hx hb dX5_fire_1 rfl (lv_at hl 1 rfl) ?_
  obtain ⟨u_1, hu_1, hf⟩ := ob hf
  refine pV X hK hA hP hS hl.1 (m_X5_isDough (l := l) E p_this p_text p_told p_draft p_s p_images p_kept p_notes p_held p_soonest v_trace v_typed v_noted v_at v_sort v_start v_value v_vanillaIn f_told x1 u_1 hu_1) kRX5_111 [0, 1] rfl rfl rfl rfl ⟨⟨(Nat.le_of_ble_eq_true rfl), (Nat.le_of_ble_eq_true rfl)⟩, Nat.zero_le _, Nat.zero_le _⟩ rfl rfl (Nat.le_of_ble_eq_true rfl) dX5_fire_2 (fun H locs hP hS => ?_)
  refine lv_if_eq (tgt := 18) hx hb dX5_fire_5 (by decide) (fun c_2 => ?_) (fun c_2 => ?_)
  · replace hf := ot c_2 hf
    refine lv_iconst (v := (-1 : Int32)) hx hb dX5_fire_18 (by decide) ?_
    obtain rfl := Option.some.inj hf
    exact hret H locs _ ls rfl hP hS dX5_fire_19
  · replace hf := of c_2 hf
    refine lv_iload_n hx hb dX5_fire_8 rfl (lv_at hl 2 rfl) ?_
    refine lv_iconst (v := (1 : Int32)) hx hb dX5_fire_9 (by decide) ?_
    refine lv_bipush (v := (99 : Int32)) hx hb dX5_fire_10 (by decide) ?_
    obtain ⟨u_3, hu_3, hf⟩ := ob hf
    refine pS X hK hA hP hS hl.1 (m_X5_in (l := l) E   x2 (1 : Int32) (99 : Int32) u_3 hu_3) kRX5_49 ⟨⟨(Nat.le_of_ble_eq_true rfl), (Nat.le_of_ble_eq_true rfl)⟩, Nat.zero_le _, Nat.zero_le _⟩ rfl rfl (Nat.le_of_ble_eq_true rfl) dX5_fire_12 (fun H locs hP hS => ?_)
    refine lv_if_ne (tgt := 20) hx hb dX5_fire_15 (by decide) (fun c_4 => ?_) (fun c_4 => ?_)
    · replace hf := of c_4 hf
      refine lv_aload_n hx hb dX5_fire_20 rfl (lv_at hl 0 rfl) ?_
      refine gf_RX5_13 X hK hP 0 rfl rfl dX5_fire_21 ?_
      refine lv_bipush (v := (25 : Int32)) hx hb dX5_fire_24 (by decide) ?_
      refine lv_iload_n hx hb dX5_fire_26 rfl (lv_at hl 1 rfl) ?_
      refine lv_iadd hx hb dX5_fire_27 ?_
      obtain ⟨g_5, hf⟩ := og hf
      refine iald X hK hP 1 rfl _ rfl g_5 dX5_fire_28 ?_
      refine lv_iload_n hx hb dX5_fire_29 rfl (lv_at hl 2 rfl) ?_
      refine lv_iadd hx hb dX5_fire_30 ?_
      refine lv_iconst (v := (1 : Int32)) hx hb dX5_fire_31 (by decide) ?_
      refine lv_isub hx hb dX5_fire_32 ?_
      refine lv_iload_n hx hb dX5_fire_33 rfl (lv_at hl 2 rfl) ?_
      obtain ⟨g_6, hf⟩ := og hf
      refine lv_idiv hx hb dX5_fire_34 g_6 ?_
      refine lv_istore_n (lv' := [(3, .int ((((f_told ((25 : Int32) + x1).toNatClampNeg) + x2) - (1 : Int32)) / x2)), (0, .ref p_this), (1, .int x1), (2, .int x2)]) hx hb dX5_fire_35 rfl hl (by decide) rfl (fun ls hl => ?_)
      refine lv_bipush (v := (10 : Int32)) hx hb dX5_fire_36 (by decide) ?_
      refine lv_iload_n hx hb dX5_fire_38 rfl (lv_at hl 0 rfl) ?_
      refine lv_imul hx hb dX5_fire_39 ?_
      refine lv_bipush (v := (8 : Int32)) hx hb dX5_fire_40 (by decide) ?_
      refine lv_iadd hx hb dX5_fire_42 ?_
      refine lv_bipush (v := (9 : Int32)) hx hb dX5_fire_43 (by decide) ?_
      refine lv_idiv hx hb dX5_fire_45 (by decide) ?_
      obtain rfl := Option.some.inj hf
      exact hret H locs _ ls rfl hP hS dX5_fire_46
    · replace hf := ot c_4 hf
      refine lv_iconst (v := (-1 : Int32)) hx hb dX5_fire_18 (by decide) ?_
      obtain rfl := Option.some.inj hf
      exact hret H locs _ ls rfl hP hS dX5_fire_19

abbrev w_X5_odds (E : Ev) (p_this : Nat) (p_text : Nat) (p_told : Nat) (p_draft : Nat) (p_s : Nat) (p_images : Nat) (p_kept : Nat) (p_notes : Nat) (p_held : Nat) (p_soonest : Nat) (v_trace : Int64) (v_typed : Int32) (v_noted : Int32) (v_at : Int32) (v_sort : Int32) (v_start : Int32) (v_value : Int32) (v_vanillaIn : Int32) (f_told : Nat → Int32) (f_s : Nat → Int32) : va_W := [(p_this, .inr (5, [.long v_trace, .ref p_text, .int v_typed, .ref p_told, .ref p_draft, .ref p_s, .ref p_images, .ref p_kept, .ref p_notes, .int v_noted, .int v_at, .int v_sort, .int v_start, .int v_value, .int v_vanillaIn, .ref p_held, .ref p_soonest])), (p_told, .inl (E.2.1, 43, .inl f_told)), (p_s, .inl (E.2.1, 155, .inl f_s))]
set_option maxHeartbeats 4000000 in
set_option maxRecDepth 100000 in
theorem b_X5_odds_228 {p : Program} {l : Launch} {e : Env} {s : State} {m : MethodId} {args : Array Value} {below : List Frame} {meth : Method} {c : Code} {Q : State → Prop} {A : Nat → Prop} (E : Ev) (p_this : Nat) (p_text : Nat) (p_told : Nat) (p_draft : Nat) (p_s : Nat) (p_images : Nat) (p_kept : Nat) (p_notes : Nat) (p_held : Nat) (p_soonest : Nat) (v_trace : Int64) (v_typed : Int32) (v_noted : Int32) (v_at : Int32) (v_sort : Int32) (v_start : Int32) (v_value : Int32) (v_vanillaIn : Int32) (f_told : Nat → Int32) (f_s : Nat → Int32) (res : Int32) (X : Cx p s m args meth c cX5_odds 10 RX5 (some .int)) (hK : KK E A s s.heap) (hA : ∀ q, s.heap.size ≤ q → A q) (hret : RetI p l e (RM 3) s m args below meth c Q E A cX5_odds .int (w_X5_odds E p_this p_text p_told p_draft p_s p_images p_kept p_notes p_held p_soonest v_trace v_typed v_noted v_at v_sort v_start v_value v_vanillaIn f_told f_s) res)  : ∀ (n : Nat) (x4 : Int32) (x5 : Int32) (x6 : Int32) (x7 : Int32) (x8 : Int32), f_X5_odds_228 v_vanillaIn f_told f_s   n x4 x5 x6 x7 x8 = some res → ∀ (H : Heap) (locs : List Loc) (ls : Array Slot), lv_has ls 10 [(4, .int x4), (5, .int x5), (6, .int x6), (7, .int x7), (8, .int x8)] → va_P E.1 classes (w_X5_odds E p_this p_text p_told p_draft p_s p_images p_kept p_notes p_held p_soonest v_trace v_typed v_noted v_at v_sort v_start v_value v_vanillaIn f_told f_s) H → va_S A s.heap H locs → W p l e (RM 3) s m args below meth c H locs 0 0 Q (F0 m 228 ls []) := by
  obtain ⟨hx, hb, hml, hown, hts, hrt, hlk⟩ := id X
  intro n
  induction n with
  | zero => intro x4 x5 x6 x7 x8 hf; exact absurd hf (by simp [f_X5_odds_228])
  | succ n ih =>
    intro x4 x5 x6 x7 x8 hf H locs ls hl hP hS
    unfold f_X5_odds_228 at hf
    refine lv_iload hx hb dX5_odds_228 (lv_at hl 4 rfl) ?_
    refine lv_if_le (tgt := 251) hx hb dX5_odds_230 (by decide) (fun c_1 => ?_) (fun c_1 => ?_)
    · replace hf := ot c_1 hf
      refine lv_iload hx hb dX5_odds_251 (lv_at hl 0 rfl) ?_
      refine lv_if_ne (tgt := 264) hx hb dX5_odds_253 (by decide) (fun c_2 => ?_) (fun c_2 => ?_)
      · replace hf := of c_2 hf
        refine lv_iload hx hb dX5_odds_264 (lv_at hl 2 rfl) ?_
        refine lv_iload hx hb dX5_odds_266 (lv_at hl 3 rfl) ?_
        obtain ⟨g_3, hf⟩ := og hf
        refine lv_idiv hx hb dX5_odds_268 g_3 ?_
        obtain rfl := Option.some.inj hf
        exact hret H locs _ ls rfl hP hS dX5_odds_269
      · replace hf := ot c_2 hf
        refine lv_iload hx hb dX5_odds_256 (lv_at hl 1 rfl) ?_
        refine lv_iload hx hb dX5_odds_258 (lv_at hl 3 rfl) ?_
        obtain ⟨g_4, hf⟩ := og hf
        refine lv_idiv hx hb dX5_odds_260 g_4 ?_
        refine lv_goto (tgt := 269) hx hb dX5_odds_261 (by decide) ?_
        obtain rfl := Option.some.inj hf
        exact hret H locs _ ls rfl hP hS dX5_odds_269
    · replace hf := of c_1 hf
      refine lv_iload hx hb dX5_odds_233 (lv_at hl 3 rfl) ?_
      refine lv_iload hx hb dX5_odds_235 (lv_at hl 4 rfl) ?_
      obtain ⟨g_5, hf⟩ := og hf
      refine lv_irem hx hb dX5_odds_237 g_5 ?_
      refine lv_istore (lv' := [(9, .int (x7 - x7 / x8 * x8)), (4, .int x4), (5, .int x5), (6, .int x6), (7, .int x7), (8, .int x8)]) hx hb dX5_odds_238 hl (by decide) rfl (fun ls hl => ?_)
      refine lv_iload hx hb dX5_odds_240 (lv_at hl 5 rfl) ?_
      refine lv_istore (lv' := [(7, .int x8), (9, .int (x7 - x7 / x8 * x8)), (4, .int x4), (5, .int x5), (6, .int x6), (8, .int x8)]) hx hb dX5_odds_242 hl (by decide) rfl (fun ls hl => ?_)
      refine lv_iload hx hb dX5_odds_244 (lv_at hl 1 rfl) ?_
      refine lv_istore (lv' := [(8, .int (x7 - x7 / x8 * x8)), (7, .int x8), (9, .int (x7 - x7 / x8 * x8)), (4, .int x4), (5, .int x5), (6, .int x6)]) hx hb dX5_odds_246 hl (by decide) rfl (fun ls hl => ?_)
      refine lv_goto (tgt := 228) hx hb dX5_odds_248 (by decide) ?_
      exact ih x4 x5 x6 x8 (x7 - x7 / x8 * x8) hf H locs ls (lv_sub hl [3, 4, 5, 1, 0] rfl) hP hS

set_option maxHeartbeats 4000000 in
set_option maxRecDepth 100000 in
theorem b_X5_odds_211 {p : Program} {l : Launch} {e : Env} {s : State} {m : MethodId} {args : Array Value} {below : List Frame} {meth : Method} {c : Code} {Q : State → Prop} {A : Nat → Prop} (E : Ev) (p_this : Nat) (p_text : Nat) (p_told : Nat) (p_draft : Nat) (p_s : Nat) (p_images : Nat) (p_kept : Nat) (p_notes : Nat) (p_held : Nat) (p_soonest : Nat) (v_trace : Int64) (v_typed : Int32) (v_noted : Int32) (v_at : Int32) (v_sort : Int32) (v_start : Int32) (v_value : Int32) (v_vanillaIn : Int32) (f_told : Nat → Int32) (f_s : Nat → Int32) (res : Int32) (X : Cx p s m args meth c cX5_odds 10 RX5 (some .int)) (hK : KK E A s s.heap) (hA : ∀ q, s.heap.size ≤ q → A q) (hret : RetI p l e (RM 3) s m args below meth c Q E A cX5_odds .int (w_X5_odds E p_this p_text p_told p_draft p_s p_images p_kept p_notes p_held p_soonest v_trace v_typed v_noted v_at v_sort v_start v_value v_vanillaIn f_told f_s) res) (K98 : Int32 → Int32 → Int32 → Int32 → Int32 → Int32 → Int32 → Option Int32) (hK98 : ∀ (x1 : Int32) (x2 : Int32) (x3 : Int32) (x4 : Int32) (x5 : Int32) (x6 : Int32) (x7 : Int32), K98 x1 x2 x3 x4 x5 x6 x7 = some res → ∀ (H : Heap) (locs : List Loc) (ls : Array Slot), lv_has ls 10 [(0, .ref p_this), (1, .int x1), (2, .int x2), (3, .int x3), (4, .int x4), (5, .int x5), (6, .int x6), (7, .int x7)] → va_P E.1 classes (w_X5_odds E p_this p_text p_told p_draft p_s p_images p_kept p_notes p_held p_soonest v_trace v_typed v_noted v_at v_sort v_start v_value v_vanillaIn f_told f_s) H → va_S A s.heap H locs → W p l e (RM 3) s m args below meth c H locs 0 0 Q (F0 m 98 ls [])) (x1 : Int32) (x2 : Int32) (x3 : Int32) (x4 : Int32) (x6 : Int32) (x7 : Int32) (k0 : Int32) (k1 : Int32) (hf : f_X5_odds_211 v_vanillaIn f_told f_s  K98 x1 x2 x3 x4 x6 x7 k0 k1 = some res) : ∀ (H : Heap) (locs : List Loc) (ls : Array Slot), lv_has ls 10 [(0, .ref p_this), (1, .int x1), (2, .int x2), (3, .int x3), (4, .int x4), (6, .int x6), (7, .int x7)] → va_P E.1 classes (w_X5_odds E p_this p_text p_told p_draft p_s p_images p_kept p_notes p_held p_soonest v_trace v_typed v_noted v_at v_sort v_start v_value v_vanillaIn f_told f_s) H → va_S A s.heap H locs → W p l e (RM 3) s m args below meth c H locs 0 0 Q (F0 m 211 ls [.int k0, .int k1]) := by
  obtain ⟨hx, hb, hml, hown, hts, hrt, hlk⟩ := id X
  intro H locs ls hl hP hS
  unfold f_X5_odds_211 at hf
  refine lv_iadd hx hb dX5_odds_211 ?_
  refine lv_istore (lv' := [(5, .int (k1 + k0)), (0, .ref p_this), (1, .int x1), (2, .int x2), (3, .int x3), (4, .int x4), (6, .int x6), (7, .int x7)]) hx hb dX5_odds_212 hl (by decide) rfl (fun ls hl => ?_)
  refine lv_iinc (v := (x7 + (1 : Int32))) (lv' := [(7, .int (x7 + (1 : Int32))), (5, .int (k1 + k0)), (0, .ref p_this), (1, .int x1), (2, .int x2), (3, .int x3), (4, .int x4), (6, .int x6)]) hx hb dX5_odds_214 hl (k := 7) rfl rfl (by decide) rfl (fun ls hl => ?_)
  refine lv_goto (tgt := 98) hx hb dX5_odds_217 (by decide) ?_
  exact hK98 x1 x2 x3 x4 (k1 + k0) x6 (x7 + (1 : Int32)) hf H locs ls (lv_sub hl [2, 3, 4, 5, 6, 1, 7, 0] rfl) hP hS

set_option maxHeartbeats 4000000 in
set_option maxRecDepth 100000 in
theorem b_X5_odds_175 {p : Program} {l : Launch} {e : Env} {s : State} {m : MethodId} {args : Array Value} {below : List Frame} {meth : Method} {c : Code} {Q : State → Prop} {A : Nat → Prop} (E : Ev) (p_this : Nat) (p_text : Nat) (p_told : Nat) (p_draft : Nat) (p_s : Nat) (p_images : Nat) (p_kept : Nat) (p_notes : Nat) (p_held : Nat) (p_soonest : Nat) (v_trace : Int64) (v_typed : Int32) (v_noted : Int32) (v_at : Int32) (v_sort : Int32) (v_start : Int32) (v_value : Int32) (v_vanillaIn : Int32) (f_told : Nat → Int32) (f_s : Nat → Int32) (res : Int32) (X : Cx p s m args meth c cX5_odds 10 RX5 (some .int)) (hK : KK E A s s.heap) (hA : ∀ q, s.heap.size ≤ q → A q) (hret : RetI p l e (RM 3) s m args below meth c Q E A cX5_odds .int (w_X5_odds E p_this p_text p_told p_draft p_s p_images p_kept p_notes p_held p_soonest v_trace v_typed v_noted v_at v_sort v_start v_value v_vanillaIn f_told f_s) res) (K98 : Int32 → Int32 → Int32 → Int32 → Int32 → Int32 → Int32 → Option Int32) (hK98 : ∀ (x1 : Int32) (x2 : Int32) (x3 : Int32) (x4 : Int32) (x5 : Int32) (x6 : Int32) (x7 : Int32), K98 x1 x2 x3 x4 x5 x6 x7 = some res → ∀ (H : Heap) (locs : List Loc) (ls : Array Slot), lv_has ls 10 [(0, .ref p_this), (1, .int x1), (2, .int x2), (3, .int x3), (4, .int x4), (5, .int x5), (6, .int x6), (7, .int x7)] → va_P E.1 classes (w_X5_odds E p_this p_text p_told p_draft p_s p_images p_kept p_notes p_held p_soonest v_trace v_typed v_noted v_at v_sort v_start v_value v_vanillaIn f_told f_s) H → va_S A s.heap H locs → W p l e (RM 3) s m args below meth c H locs 0 0 Q (F0 m 98 ls [])) (K130 : Int32 → Int32 → Int32 → Int32 → Int32 → Int32 → Int32 → Int32 → Int32 → Option Int32) (hK130 : ∀ (x1 : Int32) (x2 : Int32) (x3 : Int32) (x4 : Int32) (x5 : Int32) (x6 : Int32) (x7 : Int32) (x8 : Int32) (x9 : Int32), K130 x1 x2 x3 x4 x5 x6 x7 x8 x9 = some res → ∀ (H : Heap) (locs : List Loc) (ls : Array Slot), lv_has ls 10 [(0, .ref p_this), (1, .int x1), (2, .int x2), (3, .int x3), (4, .int x4), (5, .int x5), (6, .int x6), (7, .int x7), (8, .int x8), (9, .int x9)] → va_P E.1 classes (w_X5_odds E p_this p_text p_told p_draft p_s p_images p_kept p_notes p_held p_soonest v_trace v_typed v_noted v_at v_sort v_start v_value v_vanillaIn f_told f_s) H → va_S A s.heap H locs → W p l e (RM 3) s m args below meth c H locs 0 0 Q (F0 m 130 ls [])) (x1 : Int32) (x2 : Int32) (x3 : Int32) (x4 : Int32) (x5 : Int32) (x6 : Int32) (x7 : Int32) (x9 : Int32) (k0 : Int32) (k1 : Int32) (hf : f_X5_odds_175 v_vanillaIn f_told f_s  K98 K130 x1 x2 x3 x4 x5 x6 x7 x9 k0 k1 = some res) : ∀ (H : Heap) (locs : List Loc) (ls : Array Slot), lv_has ls 10 [(0, .ref p_this), (1, .int x1), (2, .int x2), (3, .int x3), (4, .int x4), (5, .int x5), (6, .int x6), (7, .int x7), (9, .int x9)] → va_P E.1 classes (w_X5_odds E p_this p_text p_told p_draft p_s p_images p_kept p_notes p_held p_soonest v_trace v_typed v_noted v_at v_sort v_start v_value v_vanillaIn f_told f_s) H → va_S A s.heap H locs → W p l e (RM 3) s m args below meth c H locs 0 0 Q (F0 m 175 ls [.int k0, .int k1]) := by
  obtain ⟨hx, hb, hml, hown, hts, hrt, hlk⟩ := id X
  intro H locs ls hl hP hS
  unfold f_X5_odds_175 at hf
  refine lv_imul hx hb dX5_odds_175 ?_
  refine lv_istore (lv' := [(8, .int (k1 * k0)), (0, .ref p_this), (1, .int x1), (2, .int x2), (3, .int x3), (4, .int x4), (5, .int x5), (6, .int x6), (7, .int x7), (9, .int x9)]) hx hb dX5_odds_176 hl (by decide) rfl (fun ls hl => ?_)
  refine lv_iinc (v := (x9 + (1 : Int32))) (lv' := [(9, .int (x9 + (1 : Int32))), (8, .int (k1 * k0)), (0, .ref p_this), (1, .int x1), (2, .int x2), (3, .int x3), (4, .int x4), (5, .int x5), (6, .int x6), (7, .int x7)]) hx hb dX5_odds_178 hl (k := 9) rfl rfl (by decide) rfl (fun ls hl => ?_)
  refine lv_goto (tgt := 130) hx hb dX5_odds_181 (by decide) ?_
  exact hK130 x1 x2 x3 x4 x5 x6 x7 (k1 * k0) (x9 + (1 : Int32)) hf H locs ls (lv_sub hl [2, 3, 4, 5, 6, 7, 8, 9, 1, 0] rfl) hP hS

set_option maxHeartbeats 4000000 in
set_option maxRecDepth 100000 in
theorem b_X5_odds_130 {p : Program} {l : Launch} {e : Env} {s : State} {m : MethodId} {args : Array Value} {below : List Frame} {meth : Method} {c : Code} {Q : State → Prop} {A : Nat → Prop} (E : Ev) (p_this : Nat) (p_text : Nat) (p_told : Nat) (p_draft : Nat) (p_s : Nat) (p_images : Nat) (p_kept : Nat) (p_notes : Nat) (p_held : Nat) (p_soonest : Nat) (v_trace : Int64) (v_typed : Int32) (v_noted : Int32) (v_at : Int32) (v_sort : Int32) (v_start : Int32) (v_value : Int32) (v_vanillaIn : Int32) (f_told : Nat → Int32) (f_s : Nat → Int32) (res : Int32) (X : Cx p s m args meth c cX5_odds 10 RX5 (some .int)) (hK : KK E A s s.heap) (hA : ∀ q, s.heap.size ≤ q → A q) (hret : RetI p l e (RM 3) s m args below meth c Q E A cX5_odds .int (w_X5_odds E p_this p_text p_told p_draft p_s p_images p_kept p_notes p_held p_soonest v_trace v_typed v_noted v_at v_sort v_start v_value v_vanillaIn f_told f_s) res) (K98 : Int32 → Int32 → Int32 → Int32 → Int32 → Int32 → Int32 → Option Int32) (hK98 : ∀ (x1 : Int32) (x2 : Int32) (x3 : Int32) (x4 : Int32) (x5 : Int32) (x6 : Int32) (x7 : Int32), K98 x1 x2 x3 x4 x5 x6 x7 = some res → ∀ (H : Heap) (locs : List Loc) (ls : Array Slot), lv_has ls 10 [(0, .ref p_this), (1, .int x1), (2, .int x2), (3, .int x3), (4, .int x4), (5, .int x5), (6, .int x6), (7, .int x7)] → va_P E.1 classes (w_X5_odds E p_this p_text p_told p_draft p_s p_images p_kept p_notes p_held p_soonest v_trace v_typed v_noted v_at v_sort v_start v_value v_vanillaIn f_told f_s) H → va_S A s.heap H locs → W p l e (RM 3) s m args below meth c H locs 0 0 Q (F0 m 98 ls [])) : ∀ (n : Nat) (x1 : Int32) (x2 : Int32) (x3 : Int32) (x4 : Int32) (x5 : Int32) (x6 : Int32) (x7 : Int32) (x8 : Int32) (x9 : Int32), f_X5_odds_130 v_vanillaIn f_told f_s  K98 n x1 x2 x3 x4 x5 x6 x7 x8 x9 = some res → ∀ (H : Heap) (locs : List Loc) (ls : Array Slot), lv_has ls 10 [(0, .ref p_this), (1, .int x1), (2, .int x2), (3, .int x3), (4, .int x4), (5, .int x5), (6, .int x6), (7, .int x7), (8, .int x8), (9, .int x9)] → va_P E.1 classes (w_X5_odds E p_this p_text p_told p_draft p_s p_images p_kept p_notes p_held p_soonest v_trace v_typed v_noted v_at v_sort v_start v_value v_vanillaIn f_told f_s) H → va_S A s.heap H locs → W p l e (RM 3) s m args below meth c H locs 0 0 Q (F0 m 130 ls []) := by
  obtain ⟨hx, hb, hml, hown, hts, hrt, hlk⟩ := id X
  intro n
  induction n with
  | zero => intro x1 x2 x3 x4 x5 x6 x7 x8 x9 hf; exact absurd hf (by simp [f_X5_odds_130])
  | succ n ih =>
    intro x1 x2 x3 x4 x5 x6 x7 x8 x9 hf H locs ls hl hP hS
    unfold f_X5_odds_130 at hf
    refine lv_iload hx hb dX5_odds_130 (lv_at hl 9 rfl) ?_
    refine lv_aload_n hx hb dX5_odds_132 rfl (lv_at hl 0 rfl) ?_
    refine gf_RX5_13 X hK hP 0 rfl rfl dX5_odds_133 ?_
    refine lv_iconst (v := (0 : Int32)) hx hb dX5_odds_136 (by decide) ?_
    refine iald X hK hP 1 rfl 0 (by decide) (by decide) dX5_odds_137 ?_
    refine lv_icmp_ge (tgt := 184) hx hb dX5_odds_138 (by decide) (fun c_2 => ?_) (fun c_2 => ?_)
    · replace hf := ot c_2 hf
      refine lv_iload hx hb dX5_odds_184 (lv_at hl 5 rfl) ?_
      refine lv_aload_n hx hb dX5_odds_186 rfl (lv_at hl 0 rfl) ?_
      refine lv_iload_n hx hb dX5_odds_187 rfl (lv_at hl 1 rfl) ?_
      refine lv_aload_n hx hb dX5_odds_188 rfl (lv_at hl 0 rfl) ?_
      refine gf_RX5_19 X hK hP 0 rfl rfl dX5_odds_189 ?_
      refine lv_bipush (v := (12 : Int32)) hx hb dX5_odds_192 (by decide) ?_
      refine iald X hK hP 2 rfl 12 (by decide) (by decide) dX5_odds_194 ?_
      refine lv_iload hx hb dX5_odds_195 (lv_at hl 7 rfl) ?_
      refine lv_ior hx hb dX5_odds_197 ?_
      obtain ⟨u_4, hu_4, hf⟩ := ob hf
      refine pV X hK hA hP hS hl.1 (m_X5_noseOf (l := l) E p_this p_text p_told p_draft p_s p_images p_kept p_notes p_held p_soonest v_trace v_typed v_noted v_at v_sort v_start v_value v_vanillaIn f_told f_s x1 ((f_s 12) ||| x7) u_4 hu_4) kRX5_117 [0, 1, 2] rfl rfl rfl rfl ⟨⟨(Nat.le_of_ble_eq_true rfl), (Nat.le_of_ble_eq_true rfl)⟩, Nat.zero_le _, Nat.zero_le _⟩ rfl rfl (Nat.le_of_ble_eq_true rfl) dX5_odds_198 (fun H locs hP hS => ?_)
      refine lv_iload_n hx hb dX5_odds_201 rfl (lv_at hl 2 rfl) ?_
      refine lv_icmp_ne (tgt := 210) hx hb dX5_odds_202 (by decide) (fun c_5 => ?_) (fun c_5 => ?_)
      · replace hf := of c_5 hf
        refine lv_iconst (v := (0 : Int32)) hx hb dX5_odds_210 (by decide) ?_
        exact b_X5_odds_211 E p_this p_text p_told p_draft p_s p_images p_kept p_notes p_held p_soonest v_trace v_typed v_noted v_at v_sort v_start v_value v_vanillaIn f_told f_s res X hK hA hret  K98 hK98 x1 x2 x3 x4 x6 x7 (0 : Int32) x5 hf H locs ls (lv_sub hl [0, 1, 2, 3, 4, 6, 7] rfl) hP hS
      · replace hf := ot c_5 hf
        refine lv_iload hx hb dX5_odds_205 (lv_at hl 8 rfl) ?_
        refine lv_goto (tgt := 211) hx hb dX5_odds_207 (by decide) ?_
        exact b_X5_odds_211 E p_this p_text p_told p_draft p_s p_images p_kept p_notes p_held p_soonest v_trace v_typed v_noted v_at v_sort v_start v_value v_vanillaIn f_told f_s res X hK hA hret  K98 hK98 x1 x2 x3 x4 x6 x7 x8 x5 hf H locs ls (lv_sub hl [0, 1, 2, 3, 4, 6, 7] rfl) hP hS
    · replace hf := of c_2 hf
      refine lv_iload hx hb dX5_odds_141 (lv_at hl 8 rfl) ?_
      refine lv_aload_n hx hb dX5_odds_143 rfl (lv_at hl 0 rfl) ?_
      refine lv_iload hx hb dX5_odds_144 (lv_at hl 9 rfl) ?_
      obtain ⟨u_6, hu_6, hf⟩ := ob hf
      refine pV X hK hA hP hS hl.1 (m_X5_isShut (l := l) E p_this p_text p_told p_draft p_s p_images p_kept p_notes p_held p_soonest v_trace v_typed v_noted v_at v_sort v_start v_value v_vanillaIn f_s x9 u_6 hu_6) kRX5_104 [0, 2] rfl rfl rfl rfl ⟨⟨(Nat.le_of_ble_eq_true rfl), (Nat.le_of_ble_eq_true rfl)⟩, Nat.zero_le _, Nat.zero_le _⟩ rfl rfl (Nat.le_of_ble_eq_true rfl) dX5_odds_146 (fun H locs hP hS => ?_)
      refine lv_if_eq (tgt := 156) hx hb dX5_odds_149 (by decide) (fun c_7 => ?_) (fun c_7 => ?_)
      · replace hf := ot c_7 hf
        refine lv_iload hx hb dX5_odds_156 (lv_at hl 7 rfl) ?_
        refine lv_iload hx hb dX5_odds_158 (lv_at hl 9 rfl) ?_
        refine lv_ishr hx hb dX5_odds_160 ?_
        refine lv_iconst (v := (1 : Int32)) hx hb dX5_odds_161 (by decide) ?_
        refine lv_iand hx hb dX5_odds_162 ?_
        refine lv_iconst (v := (1 : Int32)) hx hb dX5_odds_163 (by decide) ?_
        refine lv_icmp_ne (tgt := 171) hx hb dX5_odds_164 (by decide) (fun c_8 => ?_) (fun c_8 => ?_)
        · replace hf := of c_8 hf
          refine lv_bipush (v := (10 : Int32)) hx hb dX5_odds_171 (by decide) ?_
          refine lv_iload_n hx hb dX5_odds_173 rfl (lv_at hl 3 rfl) ?_
          refine lv_isub hx hb dX5_odds_174 ?_
          exact b_X5_odds_175 E p_this p_text p_told p_draft p_s p_images p_kept p_notes p_held p_soonest v_trace v_typed v_noted v_at v_sort v_start v_value v_vanillaIn f_told f_s res X hK hA hret  K98 hK98 (f_X5_odds_130 v_vanillaIn f_told f_s  K98 n) ih x1 x2 x3 x4 x5 x6 x7 x9 ((10 : Int32) - x3) x8 hf H locs ls (lv_sub hl [0, 1, 2, 3, 4, 5, 6, 7, 9] rfl) hP hS
        · replace hf := ot c_8 hf
          refine lv_iload_n hx hb dX5_odds_167 rfl (lv_at hl 3 rfl) ?_
          refine lv_goto (tgt := 175) hx hb dX5_odds_168 (by decide) ?_
          exact b_X5_odds_175 E p_this p_text p_told p_draft p_s p_images p_kept p_notes p_held p_soonest v_trace v_typed v_noted v_at v_sort v_start v_value v_vanillaIn f_told f_s res X hK hA hret  K98 hK98 (f_X5_odds_130 v_vanillaIn f_told f_s  K98 n) ih x1 x2 x3 x4 x5 x6 x7 x9 x3 x8 hf H locs ls (lv_sub hl [0, 1, 2, 3, 4, 5, 6, 7, 9] rfl) hP hS
      · replace hf := of c_7 hf
        refine lv_iconst (v := (1 : Int32)) hx hb dX5_odds_152 (by decide) ?_
        refine lv_goto (tgt := 175) hx hb dX5_odds_153 (by decide) ?_
        exact b_X5_odds_175 E p_this p_text p_told p_draft p_s p_images p_kept p_notes p_held p_soonest v_trace v_typed v_noted v_at v_sort v_start v_value v_vanillaIn f_told f_s res X hK hA hret  K98 hK98 (f_X5_odds_130 v_vanillaIn f_told f_s  K98 n) ih x1 x2 x3 x4 x5 x6 x7 x9 (1 : Int32) x8 hf H locs ls (lv_sub hl [0, 1, 2, 3, 4, 5, 6, 7, 9] rfl) hP hS

set_option maxHeartbeats 4000000 in
set_option maxRecDepth 100000 in
theorem b_X5_odds_98 {p : Program} {l : Launch} {e : Env} {s : State} {m : MethodId} {args : Array Value} {below : List Frame} {meth : Method} {c : Code} {Q : State → Prop} {A : Nat → Prop} (E : Ev) (p_this : Nat) (p_text : Nat) (p_told : Nat) (p_draft : Nat) (p_s : Nat) (p_images : Nat) (p_kept : Nat) (p_notes : Nat) (p_held : Nat) (p_soonest : Nat) (v_trace : Int64) (v_typed : Int32) (v_noted : Int32) (v_at : Int32) (v_sort : Int32) (v_start : Int32) (v_value : Int32) (v_vanillaIn : Int32) (f_told : Nat → Int32) (f_s : Nat → Int32) (res : Int32) (X : Cx p s m args meth c cX5_odds 10 RX5 (some .int)) (hK : KK E A s s.heap) (hA : ∀ q, s.heap.size ≤ q → A q) (hret : RetI p l e (RM 3) s m args below meth c Q E A cX5_odds .int (w_X5_odds E p_this p_text p_told p_draft p_s p_images p_kept p_notes p_held p_soonest v_trace v_typed v_noted v_at v_sort v_start v_value v_vanillaIn f_told f_s) res)  : ∀ (n : Nat) (x1 : Int32) (x2 : Int32) (x3 : Int32) (x4 : Int32) (x5 : Int32) (x6 : Int32) (x7 : Int32), f_X5_odds_98 v_vanillaIn f_told f_s   n x1 x2 x3 x4 x5 x6 x7 = some res → ∀ (H : Heap) (locs : List Loc) (ls : Array Slot), lv_has ls 10 [(0, .ref p_this), (1, .int x1), (2, .int x2), (3, .int x3), (4, .int x4), (5, .int x5), (6, .int x6), (7, .int x7)] → va_P E.1 classes (w_X5_odds E p_this p_text p_told p_draft p_s p_images p_kept p_notes p_held p_soonest v_trace v_typed v_noted v_at v_sort v_start v_value v_vanillaIn f_told f_s) H → va_S A s.heap H locs → W p l e (RM 3) s m args below meth c H locs 0 0 Q (F0 m 98 ls []) := by
  obtain ⟨hx, hb, hml, hown, hts, hrt, hlk⟩ := id X
  intro n
  induction n with
  | zero => intro x1 x2 x3 x4 x5 x6 x7 hf; exact absurd hf (by simp [f_X5_odds_98])
  | succ n ih =>
    intro x1 x2 x3 x4 x5 x6 x7 hf H locs ls hl hP hS
    unfold f_X5_odds_98 at hf
    refine lv_iload hx hb dX5_odds_98 (lv_at hl 7 rfl) ?_
    refine lv_iconst (v := (1 : Int32)) hx hb dX5_odds_100 (by decide) ?_
    refine lv_aload_n hx hb dX5_odds_101 rfl (lv_at hl 0 rfl) ?_
    refine gf_RX5_13 X hK hP 0 rfl rfl dX5_odds_102 ?_
    refine lv_iconst (v := (0 : Int32)) hx hb dX5_odds_105 (by decide) ?_
    refine iald X hK hP 1 rfl 0 (by decide) (by decide) dX5_odds_106 ?_
    refine lv_ishl hx hb dX5_odds_107 ?_
    refine lv_icmp_ge (tgt := 220) hx hb dX5_odds_108 (by decide) (fun c_2 => ?_) (fun c_2 => ?_)
    · replace hf := ot c_2 hf
      refine lv_iload hx hb dX5_odds_220 (lv_at hl 5 rfl) ?_
      refine lv_istore (lv' := [(7, .int x5), (0, .ref p_this), (1, .int x1), (2, .int x2), (3, .int x3), (4, .int x4), (5, .int x5), (6, .int x6)]) hx hb dX5_odds_222 hl (by decide) rfl (fun ls hl => ?_)
      refine lv_iload hx hb dX5_odds_224 (lv_at hl 7 rfl) ?_
      refine lv_istore (lv' := [(8, .int x6), (7, .int x5), (0, .ref p_this), (1, .int x1), (2, .int x2), (3, .int x3), (4, .int x4), (5, .int x5), (6, .int x6)]) hx hb dX5_odds_226 hl (by decide) rfl (fun ls hl => ?_)
      exact b_X5_odds_228 E p_this p_text p_told p_draft p_s p_images p_kept p_notes p_held p_soonest v_trace v_typed v_noted v_at v_sort v_start v_value v_vanillaIn f_told f_s res X hK hA hret   FU x4 x5 x6 x5 x6 hf H locs ls (lv_sub hl [6, 7, 8, 1, 0] rfl) hP hS
    · replace hf := of c_2 hf
      refine lv_iload hx hb dX5_odds_111 (lv_at hl 7 rfl) ?_
      refine lv_aload_n hx hb dX5_odds_113 rfl (lv_at hl 0 rfl) ?_
      refine gf_RX5_19 X hK hP 0 rfl rfl dX5_odds_114 ?_
      refine lv_bipush (v := (12 : Int32)) hx hb dX5_odds_117 (by decide) ?_
      refine iald X hK hP 2 rfl 12 (by decide) (by decide) dX5_odds_119 ?_
      refine lv_iand hx hb dX5_odds_120 ?_
      refine lv_if_ne (tgt := 214) hx hb dX5_odds_121 (by decide) (fun c_4 => ?_) (fun c_4 => ?_)
      · replace hf := of c_4 hf
        refine lv_iinc (v := (x7 + (1 : Int32))) (lv' := [(7, .int (x7 + (1 : Int32))), (0, .ref p_this), (1, .int x1), (2, .int x2), (3, .int x3), (4, .int x4), (5, .int x5), (6, .int x6)]) hx hb dX5_odds_214 hl (k := 7) rfl rfl (by decide) rfl (fun ls hl => ?_)
        refine lv_goto (tgt := 98) hx hb dX5_odds_217 (by decide) ?_
        exact ih x1 x2 x3 x4 x5 x6 (x7 + (1 : Int32)) hf H locs ls (lv_sub hl [1, 2, 3, 4, 5, 6, 7, 0] rfl) hP hS
      · replace hf := ot c_4 hf
        refine lv_iconst (v := (1 : Int32)) hx hb dX5_odds_124 (by decide) ?_
        refine lv_istore (lv' := [(8, .int (1 : Int32)), (0, .ref p_this), (1, .int x1), (2, .int x2), (3, .int x3), (4, .int x4), (5, .int x5), (6, .int x6), (7, .int x7)]) hx hb dX5_odds_125 hl (by decide) rfl (fun ls hl => ?_)
        refine lv_iconst (v := (0 : Int32)) hx hb dX5_odds_127 (by decide) ?_
        refine lv_istore (lv' := [(9, .int (0 : Int32)), (8, .int (1 : Int32)), (0, .ref p_this), (1, .int x1), (2, .int x2), (3, .int x3), (4, .int x4), (5, .int x5), (6, .int x6), (7, .int x7)]) hx hb dX5_odds_128 hl (by decide) rfl (fun ls hl => ?_)
        exact b_X5_odds_130 E p_this p_text p_told p_draft p_s p_images p_kept p_notes p_held p_soonest v_trace v_typed v_noted v_at v_sort v_start v_value v_vanillaIn f_told f_s res X hK hA hret  (f_X5_odds_98 v_vanillaIn f_told f_s   n) ih FU x1 x2 x3 x4 x5 x6 x7 (1 : Int32) (0 : Int32) hf H locs ls (lv_sub hl [2, 3, 4, 5, 6, 7, 8, 9, 1, 0] rfl) hP hS

set_option maxHeartbeats 4000000 in
set_option maxRecDepth 100000 in
theorem b_X5_odds_86 {p : Program} {l : Launch} {e : Env} {s : State} {m : MethodId} {args : Array Value} {below : List Frame} {meth : Method} {c : Code} {Q : State → Prop} {A : Nat → Prop} (E : Ev) (p_this : Nat) (p_text : Nat) (p_told : Nat) (p_draft : Nat) (p_s : Nat) (p_images : Nat) (p_kept : Nat) (p_notes : Nat) (p_held : Nat) (p_soonest : Nat) (v_trace : Int64) (v_typed : Int32) (v_noted : Int32) (v_at : Int32) (v_sort : Int32) (v_start : Int32) (v_value : Int32) (v_vanillaIn : Int32) (f_told : Nat → Int32) (f_s : Nat → Int32) (res : Int32) (X : Cx p s m args meth c cX5_odds 10 RX5 (some .int)) (hK : KK E A s s.heap) (hA : ∀ q, s.heap.size ≤ q → A q) (hret : RetI p l e (RM 3) s m args below meth c Q E A cX5_odds .int (w_X5_odds E p_this p_text p_told p_draft p_s p_images p_kept p_notes p_held p_soonest v_trace v_typed v_noted v_at v_sort v_start v_value v_vanillaIn f_told f_s) res) (K58 : Int32 → Int32 → Int32 → Int32 → Int32 → Int32 → Int32 → Option Int32) (hK58 : ∀ (x1 : Int32) (x2 : Int32) (x3 : Int32) (x4 : Int32) (x5 : Int32) (x6 : Int32) (x7 : Int32), K58 x1 x2 x3 x4 x5 x6 x7 = some res → ∀ (H : Heap) (locs : List Loc) (ls : Array Slot), lv_has ls 10 [(0, .ref p_this), (1, .int x1), (2, .int x2), (3, .int x3), (4, .int x4), (5, .int x5), (6, .int x6), (7, .int x7)] → va_P E.1 classes (w_X5_odds E p_this p_text p_told p_draft p_s p_images p_kept p_notes p_held p_soonest v_trace v_typed v_noted v_at v_sort v_start v_value v_vanillaIn f_told f_s) H → va_S A s.heap H locs → W p l e (RM 3) s m args below meth c H locs 0 0 Q (F0 m 58 ls [])) (x1 : Int32) (x2 : Int32) (x3 : Int32) (x4 : Int32) (x5 : Int32) (x7 : Int32) (k0 : Int32) (k1 : Int32) (hf : f_X5_odds_86 v_vanillaIn f_told f_s  K58 x1 x2 x3 x4 x5 x7 k0 k1 = some res) : ∀ (H : Heap) (locs : List Loc) (ls : Array Slot), lv_has ls 10 [(0, .ref p_this), (1, .int x1), (2, .int x2), (3, .int x3), (4, .int x4), (5, .int x5), (7, .int x7)] → va_P E.1 classes (w_X5_odds E p_this p_text p_told p_draft p_s p_images p_kept p_notes p_held p_soonest v_trace v_typed v_noted v_at v_sort v_start v_value v_vanillaIn f_told f_s) H → va_S A s.heap H locs → W p l e (RM 3) s m args below meth c H locs 0 0 Q (F0 m 86 ls [.int k0, .int k1]) := by
  obtain ⟨hx, hb, hml, hown, hts, hrt, hlk⟩ := id X
  intro H locs ls hl hP hS
  unfold f_X5_odds_86 at hf
  refine lv_imul hx hb dX5_odds_86 ?_
  refine lv_istore (lv' := [(6, .int (k1 * k0)), (0, .ref p_this), (1, .int x1), (2, .int x2), (3, .int x3), (4, .int x4), (5, .int x5), (7, .int x7)]) hx hb dX5_odds_87 hl (by decide) rfl (fun ls hl => ?_)
  refine lv_iinc (v := (x7 + (1 : Int32))) (lv' := [(7, .int (x7 + (1 : Int32))), (6, .int (k1 * k0)), (0, .ref p_this), (1, .int x1), (2, .int x2), (3, .int x3), (4, .int x4), (5, .int x5)]) hx hb dX5_odds_89 hl (k := 7) rfl rfl (by decide) rfl (fun ls hl => ?_)
  refine lv_goto (tgt := 58) hx hb dX5_odds_92 (by decide) ?_
  exact hK58 x1 x2 x3 x4 x5 (k1 * k0) (x7 + (1 : Int32)) hf H locs ls (lv_sub hl [2, 3, 4, 5, 6, 7, 1, 0] rfl) hP hS

set_option maxHeartbeats 4000000 in
set_option maxRecDepth 100000 in
theorem b_X5_odds_58 {p : Program} {l : Launch} {e : Env} {s : State} {m : MethodId} {args : Array Value} {below : List Frame} {meth : Method} {c : Code} {Q : State → Prop} {A : Nat → Prop} (E : Ev) (p_this : Nat) (p_text : Nat) (p_told : Nat) (p_draft : Nat) (p_s : Nat) (p_images : Nat) (p_kept : Nat) (p_notes : Nat) (p_held : Nat) (p_soonest : Nat) (v_trace : Int64) (v_typed : Int32) (v_noted : Int32) (v_at : Int32) (v_sort : Int32) (v_start : Int32) (v_value : Int32) (v_vanillaIn : Int32) (f_told : Nat → Int32) (f_s : Nat → Int32) (res : Int32) (X : Cx p s m args meth c cX5_odds 10 RX5 (some .int)) (hK : KK E A s s.heap) (hA : ∀ q, s.heap.size ≤ q → A q) (hret : RetI p l e (RM 3) s m args below meth c Q E A cX5_odds .int (w_X5_odds E p_this p_text p_told p_draft p_s p_images p_kept p_notes p_held p_soonest v_trace v_typed v_noted v_at v_sort v_start v_value v_vanillaIn f_told f_s) res)  : ∀ (n : Nat) (x1 : Int32) (x2 : Int32) (x3 : Int32) (x4 : Int32) (x5 : Int32) (x6 : Int32) (x7 : Int32), f_X5_odds_58 v_vanillaIn f_told f_s   n x1 x2 x3 x4 x5 x6 x7 = some res → ∀ (H : Heap) (locs : List Loc) (ls : Array Slot), lv_has ls 10 [(0, .ref p_this), (1, .int x1), (2, .int x2), (3, .int x3), (4, .int x4), (5, .int x5), (6, .int x6), (7, .int x7)] → va_P E.1 classes (w_X5_odds E p_this p_text p_told p_draft p_s p_images p_kept p_notes p_held p_soonest v_trace v_typed v_noted v_at v_sort v_start v_value v_vanillaIn f_told f_s) H → va_S A s.heap H locs → W p l e (RM 3) s m args below meth c H locs 0 0 Q (F0 m 58 ls []) := by
  obtain ⟨hx, hb, hml, hown, hts, hrt, hlk⟩ := id X
  intro n
  induction n with
  | zero => intro x1 x2 x3 x4 x5 x6 x7 hf; exact absurd hf (by simp [f_X5_odds_58])
  | succ n ih =>
    intro x1 x2 x3 x4 x5 x6 x7 hf H locs ls hl hP hS
    unfold f_X5_odds_58 at hf
    refine lv_iload hx hb dX5_odds_58 (lv_at hl 7 rfl) ?_
    refine lv_aload_n hx hb dX5_odds_60 rfl (lv_at hl 0 rfl) ?_
    refine gf_RX5_13 X hK hP 0 rfl rfl dX5_odds_61 ?_
    refine lv_iconst (v := (0 : Int32)) hx hb dX5_odds_64 (by decide) ?_
    refine iald X hK hP 1 rfl 0 (by decide) (by decide) dX5_odds_65 ?_
    refine lv_icmp_ge (tgt := 95) hx hb dX5_odds_66 (by decide) (fun c_2 => ?_) (fun c_2 => ?_)
    · replace hf := ot c_2 hf
      refine lv_iconst (v := (0 : Int32)) hx hb dX5_odds_95 (by decide) ?_
      refine lv_istore (lv' := [(7, .int (0 : Int32)), (0, .ref p_this), (1, .int x1), (2, .int x2), (3, .int x3), (4, .int x4), (5, .int x5), (6, .int x6)]) hx hb dX5_odds_96 hl (by decide) rfl (fun ls hl => ?_)
      exact b_X5_odds_98 E p_this p_text p_told p_draft p_s p_images p_kept p_notes p_held p_soonest v_trace v_typed v_noted v_at v_sort v_start v_value v_vanillaIn f_told f_s res X hK hA hret   FU x1 x2 x3 x4 x5 x6 (0 : Int32) hf H locs ls (lv_sub hl [1, 2, 3, 4, 5, 6, 7, 0] rfl) hP hS
    · replace hf := of c_2 hf
      refine lv_iload hx hb dX5_odds_69 (lv_at hl 6 rfl) ?_
      refine lv_aload_n hx hb dX5_odds_71 rfl (lv_at hl 0 rfl) ?_
      refine lv_iload hx hb dX5_odds_72 (lv_at hl 7 rfl) ?_
      obtain ⟨u_3, hu_3, hf⟩ := ob hf
      refine pV X hK hA hP hS hl.1 (m_X5_isShut (l := l) E p_this p_text p_told p_draft p_s p_images p_kept p_notes p_held p_soonest v_trace v_typed v_noted v_at v_sort v_start v_value v_vanillaIn f_s x7 u_3 hu_3) kRX5_104 [0, 2] rfl rfl rfl rfl ⟨⟨(Nat.le_of_ble_eq_true rfl), (Nat.le_of_ble_eq_true rfl)⟩, Nat.zero_le _, Nat.zero_le _⟩ rfl rfl (Nat.le_of_ble_eq_true rfl) dX5_odds_74 (fun H locs hP hS => ?_)
      refine lv_if_eq (tgt := 84) hx hb dX5_odds_77 (by decide) (fun c_4 => ?_) (fun c_4 => ?_)
      · replace hf := ot c_4 hf
        refine lv_bipush (v := (10 : Int32)) hx hb dX5_odds_84 (by decide) ?_
        exact b_X5_odds_86 E p_this p_text p_told p_draft p_s p_images p_kept p_notes p_held p_soonest v_trace v_typed v_noted v_at v_sort v_start v_value v_vanillaIn f_told f_s res X hK hA hret  (f_X5_odds_58 v_vanillaIn f_told f_s   n) ih x1 x2 x3 x4 x5 x7 (10 : Int32) x6 hf H locs ls (lv_sub hl [0, 1, 2, 3, 4, 5, 7] rfl) hP hS
      · replace hf := of c_4 hf
        refine lv_iconst (v := (1 : Int32)) hx hb dX5_odds_80 (by decide) ?_
        refine lv_goto (tgt := 86) hx hb dX5_odds_81 (by decide) ?_
        exact b_X5_odds_86 E p_this p_text p_told p_draft p_s p_images p_kept p_notes p_held p_soonest v_trace v_typed v_noted v_at v_sort v_start v_value v_vanillaIn f_told f_s res X hK hA hret  (f_X5_odds_58 v_vanillaIn f_told f_s   n) ih x1 x2 x3 x4 x5 x7 (1 : Int32) x6 hf H locs ls (lv_sub hl [0, 1, 2, 3, 4, 5, 7] rfl) hP hS

set_option maxHeartbeats 4000000 in
set_option maxRecDepth 100000 in
theorem m_X5_odds {l : Launch} (E : Ev) (p_this : Nat) (p_text : Nat) (p_told : Nat) (p_draft : Nat) (p_s : Nat) (p_images : Nat) (p_kept : Nat) (p_notes : Nat) (p_held : Nat) (p_soonest : Nat) (v_trace : Int64) (v_typed : Int32) (v_noted : Int32) (v_at : Int32) (v_sort : Int32) (v_start : Int32) (v_value : Int32) (v_vanillaIn : Int32) (f_told : Nat → Int32) (f_s : Nat → Int32) (x1 : Int32) (x2 : Int32) (x3 : Int32) (x4 : Int32) (res : Int32) (hf : f_X5_odds  v_vanillaIn f_told f_s x1 x2 x3 x4 = some res) : PureI l E 3 yX5_odds cX5_odds 10 .int [.ref p_this, .int x1, .int x2, .int x3, .int x4] (w_X5_odds E p_this p_text p_told p_draft p_s p_images p_kept p_notes p_held p_soonest v_trace v_typed v_noted v_at v_sort v_start v_value v_vanillaIn f_told f_s) res := by
  refine PureI.of (by decide) (Nat.le_of_ble_eq_true rfl) ?_
  intro p e s m args below meth c Q A X hK hA hret H locs ls hl hP hS
  obtain ⟨hx, hb, hml, hown, hts, hrt, hlk⟩ := id X
  have hl : lv_has ls 10 [(0, .ref p_this), (1, .int x1), (2, .int x2), (3, .int x3), (4, .int x4)] := hl
  unfold f_X5_odds at hf
  refine lv_aload_n hx hb dX5_odds_0 rfl (lv_at hl 0 rfl) ?_
  refine lv_iload_n hx hb dX5_odds_1 rfl (lv_at hl 1 rfl) ?_
  obtain ⟨u_1, hu_1, hf⟩ := ob hf
  refine pV X hK hA hP hS hl.1 (m_X5_isDough (l := l) E p_this p_text p_told p_draft p_s p_images p_kept p_notes p_held p_soonest v_trace v_typed v_noted v_at v_sort v_start v_value v_vanillaIn f_told x1 u_1 hu_1) kRX5_111 [0, 1] rfl rfl rfl rfl ⟨⟨(Nat.le_of_ble_eq_true rfl), (Nat.le_of_ble_eq_true rfl)⟩, Nat.zero_le _, Nat.zero_le _⟩ rfl rfl (Nat.le_of_ble_eq_true rfl) dX5_odds_2 (fun H locs hP hS => ?_)
  refine lv_if_eq (tgt := 36) hx hb dX5_odds_5 (by decide) (fun c_2 => ?_) (fun c_2 => ?_)
  · replace hf := ot c_2 hf
    refine lv_iconst (v := (-1 : Int32)) hx hb dX5_odds_36 (by decide) ?_
    obtain rfl := Option.some.inj hf
    exact hret H locs _ ls rfl hP hS dX5_odds_37
  · replace hf := of c_2 hf
    refine lv_aload_n hx hb dX5_odds_8 rfl (lv_at hl 0 rfl) ?_
    refine lv_iload_n hx hb dX5_odds_9 rfl (lv_at hl 2 rfl) ?_
    obtain ⟨u_3, hu_3, hf⟩ := ob hf
    refine pV X hK hA hP hS hl.1 (m_X5_isOven (l := l) E p_this p_text p_told p_draft p_s p_images p_kept p_notes p_held p_soonest v_trace v_typed v_noted v_at v_sort v_start v_value v_vanillaIn f_told x2 u_3 hu_3) kRX5_97 [0, 1] rfl rfl rfl rfl ⟨⟨(Nat.le_of_ble_eq_true rfl), (Nat.le_of_ble_eq_true rfl)⟩, Nat.zero_le _, Nat.zero_le _⟩ rfl rfl (Nat.le_of_ble_eq_true rfl) dX5_odds_10 (fun H locs hP hS => ?_)
    refine lv_if_eq (tgt := 36) hx hb dX5_odds_13 (by decide) (fun c_4 => ?_) (fun c_4 => ?_)
    · replace hf := ot c_4 hf
      refine lv_iconst (v := (-1 : Int32)) hx hb dX5_odds_36 (by decide) ?_
      obtain rfl := Option.some.inj hf
      exact hret H locs _ ls rfl hP hS dX5_odds_37
    · replace hf := of c_4 hf
      refine lv_iload_n hx hb dX5_odds_16 rfl (lv_at hl 3 rfl) ?_
      refine lv_iconst (v := (0 : Int32)) hx hb dX5_odds_17 (by decide) ?_
      refine lv_bipush (v := (10 : Int32)) hx hb dX5_odds_18 (by decide) ?_
      obtain ⟨u_5, hu_5, hf⟩ := ob hf
      refine pS X hK hA hP hS hl.1 (m_X5_in (l := l) E   x3 (0 : Int32) (10 : Int32) u_5 hu_5) kRX5_49 ⟨⟨(Nat.le_of_ble_eq_true rfl), (Nat.le_of_ble_eq_true rfl)⟩, Nat.zero_le _, Nat.zero_le _⟩ rfl rfl (Nat.le_of_ble_eq_true rfl) dX5_odds_20 (fun H locs hP hS => ?_)
      refine lv_if_eq (tgt := 36) hx hb dX5_odds_23 (by decide) (fun c_6 => ?_) (fun c_6 => ?_)
      · replace hf := ot c_6 hf
        refine lv_iconst (v := (-1 : Int32)) hx hb dX5_odds_36 (by decide) ?_
        obtain rfl := Option.some.inj hf
        exact hret H locs _ ls rfl hP hS dX5_odds_37
      · replace hf := of c_6 hf
        refine lv_iload hx hb dX5_odds_26 (lv_at hl 4 rfl) ?_
        refine lv_iconst (v := (0 : Int32)) hx hb dX5_odds_28 (by decide) ?_
        refine lv_iconst (v := (1 : Int32)) hx hb dX5_odds_29 (by decide) ?_
        obtain ⟨u_7, hu_7, hf⟩ := ob hf
        refine pS X hK hA hP hS hl.1 (m_X5_in (l := l) E   x4 (0 : Int32) (1 : Int32) u_7 hu_7) kRX5_49 ⟨⟨(Nat.le_of_ble_eq_true rfl), (Nat.le_of_ble_eq_true rfl)⟩, Nat.zero_le _, Nat.zero_le _⟩ rfl rfl (Nat.le_of_ble_eq_true rfl) dX5_odds_30 (fun H locs hP hS => ?_)
        refine lv_if_ne (tgt := 38) hx hb dX5_odds_33 (by decide) (fun c_8 => ?_) (fun c_8 => ?_)
        · replace hf := of c_8 hf
          refine lv_aload_n hx hb dX5_odds_38 rfl (lv_at hl 0 rfl) ?_
          refine lv_iload_n hx hb dX5_odds_39 rfl (lv_at hl 1 rfl) ?_
          obtain ⟨u_9, hu_9, hf⟩ := ob hf
          refine pV X hK hA hP hS hl.1 (m_X5_isOut (l := l) E p_this p_text p_told p_draft p_s p_images p_kept p_notes p_held p_soonest v_trace v_typed v_noted v_at v_sort v_start v_value v_vanillaIn f_s x1 u_9 hu_9) kRX5_114 [0, 2] rfl rfl rfl rfl ⟨⟨(Nat.le_of_ble_eq_true rfl), (Nat.le_of_ble_eq_true rfl)⟩, Nat.zero_le _, Nat.zero_le _⟩ rfl rfl (Nat.le_of_ble_eq_true rfl) dX5_odds_40 (fun H locs hP hS => ?_)
          refine lv_if_ne (tgt := 49) hx hb dX5_odds_43 (by decide) (fun c_10 => ?_) (fun c_10 => ?_)
          · replace hf := of c_10 hf
            refine lv_iconst (v := (0 : Int32)) hx hb dX5_odds_49 (by decide) ?_
            refine lv_istore (lv' := [(5, .int (0 : Int32)), (0, .ref p_this), (1, .int x1), (2, .int x2), (3, .int x3), (4, .int x4)]) hx hb dX5_odds_50 hl (by decide) rfl (fun ls hl => ?_)
            refine lv_iconst (v := (1 : Int32)) hx hb dX5_odds_52 (by decide) ?_
            refine lv_istore (lv' := [(6, .int (1 : Int32)), (5, .int (0 : Int32)), (0, .ref p_this), (1, .int x1), (2, .int x2), (3, .int x3), (4, .int x4)]) hx hb dX5_odds_53 hl (by decide) rfl (fun ls hl => ?_)
            refine lv_iconst (v := (0 : Int32)) hx hb dX5_odds_55 (by decide) ?_
            refine lv_istore (lv' := [(7, .int (0 : Int32)), (6, .int (1 : Int32)), (5, .int (0 : Int32)), (0, .ref p_this), (1, .int x1), (2, .int x2), (3, .int x3), (4, .int x4)]) hx hb dX5_odds_56 hl (by decide) rfl (fun ls hl => ?_)
            exact b_X5_odds_58 E p_this p_text p_told p_draft p_s p_images p_kept p_notes p_held p_soonest v_trace v_typed v_noted v_at v_sort v_start v_value v_vanillaIn f_told f_s res X hK hA hret   FU x1 x2 x3 x4 (0 : Int32) (1 : Int32) (0 : Int32) hf H locs ls (lv_sub hl [3, 4, 5, 6, 7, 2, 1, 0] rfl) hP hS
          · replace hf := ot c_10 hf
            refine lv_bipush (v := (-2 : Int32)) hx hb dX5_odds_46 (by decide) ?_
            obtain rfl := Option.some.inj hf
            exact hret H locs _ ls rfl hP hS dX5_odds_48
        · replace hf := ot c_8 hf
          refine lv_iconst (v := (-1 : Int32)) hx hb dX5_odds_36 (by decide) ?_
          obtain rfl := Option.some.inj hf
          exact hret H locs _ ls rfl hP hS dX5_odds_37

abbrev w_X5_led (E : Ev) (p_this : Nat) (p_text : Nat) (p_told : Nat) (p_draft : Nat) (p_s : Nat) (p_images : Nat) (p_kept : Nat) (p_notes : Nat) (p_held : Nat) (p_soonest : Nat) (v_trace : Int64) (v_typed : Int32) (v_noted : Int32) (v_at : Int32) (v_sort : Int32) (v_start : Int32) (v_value : Int32) (v_vanillaIn : Int32) (f_told : Nat → Int32) (f_s : Nat → Int32) (f_notes : Nat → Int32) : va_W := [(p_this, .inr (5, [.long v_trace, .ref p_text, .int v_typed, .ref p_told, .ref p_draft, .ref p_s, .ref p_images, .ref p_kept, .ref p_notes, .int v_noted, .int v_at, .int v_sort, .int v_start, .int v_value, .int v_vanillaIn, .ref p_held, .ref p_soonest])), (p_told, .inl (E.2.1, 43, .inl f_told)), (p_s, .inl (E.2.1, 155, .inl f_s)), (p_notes, .inl (E.2.1, 6, .inl f_notes))]
set_option maxHeartbeats 4000000 in
set_option maxRecDepth 100000 in
theorem m_X5_led {l : Launch} (E : Ev) (p_this : Nat) (p_text : Nat) (p_told : Nat) (p_draft : Nat) (p_s : Nat) (p_images : Nat) (p_kept : Nat) (p_notes : Nat) (p_held : Nat) (p_soonest : Nat) (v_trace : Int64) (v_typed : Int32) (v_noted : Int32) (v_at : Int32) (v_sort : Int32) (v_start : Int32) (v_value : Int32) (v_vanillaIn : Int32) (f_told : Nat → Int32) (f_s : Nat → Int32) (f_notes : Nat → Int32) (x1 : Int32) (x2 : Int32) (res : Int32 × Int32 × (Nat → Int32)) (hf : f_X5_led  f_told f_s v_noted f_notes x1 x2 = some res) : MutI l E 3 yX5_led cX5_led 3 .int [.ref p_this, .int x1, .int x2] (w_X5_led E p_this p_text p_told p_draft p_s p_images p_kept p_notes p_held p_soonest v_trace v_typed v_noted v_at v_sort v_start v_value v_vanillaIn f_told f_s f_notes) (w_X5_led E p_this p_text p_told p_draft p_s p_images p_kept p_notes p_held p_soonest v_trace v_typed res.2.1 v_at v_sort v_start v_value v_vanillaIn f_told f_s res.2.2) res.1 := by
  refine MutI.of (by decide) (Nat.le_of_ble_eq_true rfl) ?_
  intro p e s m args below meth c Q A X hK hA hret H locs ls hl hP hD hS
  obtain ⟨hx, hb, hml, hown, hts, hrt, hlk⟩ := id X
  have hl : lv_has ls 3 [(0, .ref p_this), (1, .int x1), (2, .int x2)] := hl
  unfold f_X5_led at hf
  refine lv_aload_n hx hb dX5_led_0 rfl (lv_at hl 0 rfl) ?_
  refine lv_iload_n hx hb dX5_led_1 rfl (lv_at hl 1 rfl) ?_
  obtain ⟨u_1, hu_1, hf⟩ := ob hf
  refine pV X hK hA hP hS hl.1 (m_X5_isDough (l := l) E p_this p_text p_told p_draft p_s p_images p_kept p_notes p_held p_soonest v_trace v_typed v_noted v_at v_sort v_start v_value v_vanillaIn f_told x1 u_1 hu_1) kRX5_111 [0, 1] rfl rfl rfl rfl ⟨⟨(Nat.le_of_ble_eq_true rfl), (Nat.le_of_ble_eq_true rfl)⟩, Nat.zero_le _, Nat.zero_le _⟩ rfl rfl (Nat.le_of_ble_eq_true rfl) dX5_led_2 (fun H locs hP hS => ?_)
  refine lv_if_eq (tgt := 16) hx hb dX5_led_5 (by decide) (fun c_2 => ?_) (fun c_2 => ?_)
  · replace hf := ot c_2 hf
    refine lv_iconst (v := (-1 : Int32)) hx hb dX5_led_16 (by decide) ?_
    obtain rfl := Option.some.inj hf
    exact hret H locs _ ls rfl hP hS dX5_led_17
  · replace hf := of c_2 hf
    refine lv_aload_n hx hb dX5_led_8 rfl (lv_at hl 0 rfl) ?_
    refine lv_iload_n hx hb dX5_led_9 rfl (lv_at hl 2 rfl) ?_
    obtain ⟨u_3, hu_3, hf⟩ := ob hf
    refine pV X hK hA hP hS hl.1 (m_X5_isOven (l := l) E p_this p_text p_told p_draft p_s p_images p_kept p_notes p_held p_soonest v_trace v_typed v_noted v_at v_sort v_start v_value v_vanillaIn f_told x2 u_3 hu_3) kRX5_97 [0, 1] rfl rfl rfl rfl ⟨⟨(Nat.le_of_ble_eq_true rfl), (Nat.le_of_ble_eq_true rfl)⟩, Nat.zero_le _, Nat.zero_le _⟩ rfl rfl (Nat.le_of_ble_eq_true rfl) dX5_led_10 (fun H locs hP hS => ?_)
    refine lv_if_ne (tgt := 18) hx hb dX5_led_13 (by decide) (fun c_4 => ?_) (fun c_4 => ?_)
    · replace hf := of c_4 hf
      refine lv_aload_n hx hb dX5_led_18 rfl (lv_at hl 0 rfl) ?_
      refine lv_iload_n hx hb dX5_led_19 rfl (lv_at hl 1 rfl) ?_
      obtain ⟨u_5, hu_5, hf⟩ := ob hf
      refine pV X hK hA hP hS hl.1 (m_X5_isOut (l := l) E p_this p_text p_told p_draft p_s p_images p_kept p_notes p_held p_soonest v_trace v_typed v_noted v_at v_sort v_start v_value v_vanillaIn f_s x1 u_5 hu_5) kRX5_114 [0, 2] rfl rfl rfl rfl ⟨⟨(Nat.le_of_ble_eq_true rfl), (Nat.le_of_ble_eq_true rfl)⟩, Nat.zero_le _, Nat.zero_le _⟩ rfl rfl (Nat.le_of_ble_eq_true rfl) dX5_led_20 (fun H locs hP hS => ?_)
      refine lv_if_ne (tgt := 29) hx hb dX5_led_23 (by decide) (fun c_6 => ?_) (fun c_6 => ?_)
      · replace hf := of c_6 hf
        refine lv_aload_n hx hb dX5_led_29 rfl (lv_at hl 0 rfl) ?_
        refine gf_RX5_88 X hK hP 0 rfl rfl dX5_led_30 ?_
        refine lv_bipush (v := (6 : Int32)) hx hb dX5_led_33 (by decide) ?_
        refine lv_icmp_ne (tgt := 41) hx hb dX5_led_35 (by decide) (fun c_7 => ?_) (fun c_7 => ?_)
        · replace hf := of c_7 hf
          refine lv_aload_n hx hb dX5_led_41 rfl (lv_at hl 0 rfl) ?_
          refine gf_RX5_29 X hK hP 0 rfl rfl dX5_led_42 ?_
          refine lv_aload_n hx hb dX5_led_45 rfl (lv_at hl 0 rfl) ?_
          refine gf_RX5_88 X hK hP 0 rfl rfl dX5_led_46 ?_
          refine lv_bipush (v := (10 : Int32)) hx hb dX5_led_49 (by decide) ?_
          refine lv_iload_n hx hb dX5_led_51 rfl (lv_at hl 1 rfl) ?_
          refine lv_imul hx hb dX5_led_52 ?_
          refine lv_iload_n hx hb dX5_led_53 rfl (lv_at hl 2 rfl) ?_
          refine lv_iadd hx hb dX5_led_54 ?_
          obtain ⟨g_8, hf⟩ := og hf
          refine iast X hK hP hD hS 3 rfl _ rfl g_8 dX5_led_55 (fun H locs hP hD hS => ?_)
          have hP : va_P E.1 classes (w_X5_led E p_this p_text p_told p_draft p_s p_images p_kept p_notes p_held p_soonest v_trace v_typed v_noted v_at v_sort v_start v_value v_vanillaIn f_told f_s (upd f_notes v_noted.toNatClampNeg (((10 : Int32) * x1) + x2))) H := hP
          have hD : va_D A (w_X5_led E p_this p_text p_told p_draft p_s p_images p_kept p_notes p_held p_soonest v_trace v_typed v_noted v_at v_sort v_start v_value v_vanillaIn f_told f_s (upd f_notes v_noted.toNatClampNeg (((10 : Int32) * x1) + x2))) := hD
          refine lv_aload_n hx hb dX5_led_56 rfl (lv_at hl 0 rfl) ?_
          refine lv_dup hx hb dX5_led_57 rfl ?_
          refine gf_RX5_88 X hK hP 0 rfl rfl dX5_led_58 ?_
          refine lv_iconst (v := (1 : Int32)) hx hb dX5_led_61 (by decide) ?_
          refine lv_iadd hx hb dX5_led_62 ?_
          refine pf_RX5_88 X hK hP hD hS 0 rfl rfl dX5_led_63 (fun H locs hP hD hS => ?_)
          have hP : va_P E.1 classes (w_X5_led E p_this p_text p_told p_draft p_s p_images p_kept p_notes p_held p_soonest v_trace v_typed (v_noted + (1 : Int32)) v_at v_sort v_start v_value v_vanillaIn f_told f_s (upd f_notes v_noted.toNatClampNeg (((10 : Int32) * x1) + x2))) H := hP
          have hD : va_D A (w_X5_led E p_this p_text p_told p_draft p_s p_images p_kept p_notes p_held p_soonest v_trace v_typed (v_noted + (1 : Int32)) v_at v_sort v_start v_value v_vanillaIn f_told f_s (upd f_notes v_noted.toNatClampNeg (((10 : Int32) * x1) + x2))) := hD
          refine lv_aload_n hx hb dX5_led_66 rfl (lv_at hl 0 rfl) ?_
          refine gf_RX5_88 X hK hP 0 rfl rfl dX5_led_67 ?_
          obtain rfl := Option.some.inj hf
          exact hret H locs _ ls rfl hP hS dX5_led_70
        · replace hf := ot c_7 hf
          refine lv_bipush (v := (-3 : Int32)) hx hb dX5_led_38 (by decide) ?_
          obtain rfl := Option.some.inj hf
          exact hret H locs _ ls rfl hP hS dX5_led_40
      · replace hf := ot c_6 hf
        refine lv_bipush (v := (-2 : Int32)) hx hb dX5_led_26 (by decide) ?_
        obtain rfl := Option.some.inj hf
        exact hret H locs _ ls rfl hP hS dX5_led_28
    · replace hf := ot c_4 hf
      refine lv_iconst (v := (-1 : Int32)) hx hb dX5_led_16 (by decide) ?_
      obtain rfl := Option.some.inj hf
      exact hret H locs _ ls rfl hP hS dX5_led_17

abbrev w_X5_forget (E : Ev) (p_this : Nat) (p_text : Nat) (p_told : Nat) (p_draft : Nat) (p_s : Nat) (p_images : Nat) (p_kept : Nat) (p_notes : Nat) (p_held : Nat) (p_soonest : Nat) (v_trace : Int64) (v_typed : Int32) (v_noted : Int32) (v_at : Int32) (v_sort : Int32) (v_start : Int32) (v_value : Int32) (v_vanillaIn : Int32) : va_W := [(p_this, .inr (5, [.long v_trace, .ref p_text, .int v_typed, .ref p_told, .ref p_draft, .ref p_s, .ref p_images, .ref p_kept, .ref p_notes, .int v_noted, .int v_at, .int v_sort, .int v_start, .int v_value, .int v_vanillaIn, .ref p_held, .ref p_soonest]))]
set_option maxHeartbeats 4000000 in
set_option maxRecDepth 100000 in
theorem m_X5_forget {l : Launch} (E : Ev) (p_this : Nat) (p_text : Nat) (p_told : Nat) (p_draft : Nat) (p_s : Nat) (p_images : Nat) (p_kept : Nat) (p_notes : Nat) (p_held : Nat) (p_soonest : Nat) (v_trace : Int64) (v_typed : Int32) (v_noted : Int32) (v_at : Int32) (v_sort : Int32) (v_start : Int32) (v_value : Int32) (v_vanillaIn : Int32)  (res : Int32 × Int32) (hf : f_X5_forget  v_noted  = some res) : MutI l E 1 yX5_forget cX5_forget 2 .int [.ref p_this] (w_X5_forget E p_this p_text p_told p_draft p_s p_images p_kept p_notes p_held p_soonest v_trace v_typed v_noted v_at v_sort v_start v_value v_vanillaIn) (w_X5_forget E p_this p_text p_told p_draft p_s p_images p_kept p_notes p_held p_soonest v_trace v_typed res.2 v_at v_sort v_start v_value v_vanillaIn) res.1 := by
  refine MutI.of (by decide) (Nat.le_of_ble_eq_true rfl) ?_
  intro p e s m args below meth c Q A X hK hA hret H locs ls hl hP hD hS
  obtain ⟨hx, hb, hml, hown, hts, hrt, hlk⟩ := id X
  have hl : lv_has ls 2 [(0, .ref p_this)] := hl
  unfold f_X5_forget at hf
  refine lv_aload_n hx hb dX5_forget_0 rfl (lv_at hl 0 rfl) ?_
  refine gf_RX5_88 X hK hP 0 rfl rfl dX5_forget_1 ?_
  refine lv_istore_n (lv' := [(1, .int v_noted), (0, .ref p_this)]) hx hb dX5_forget_4 rfl hl (by decide) rfl (fun ls hl => ?_)
  refine lv_aload_n hx hb dX5_forget_5 rfl (lv_at hl 1 rfl) ?_
  refine lv_iconst (v := (0 : Int32)) hx hb dX5_forget_6 (by decide) ?_
  refine pf_RX5_88 X hK hP hD hS 0 rfl rfl dX5_forget_7 (fun H locs hP hD hS => ?_)
  have hP : va_P E.1 classes (w_X5_forget E p_this p_text p_told p_draft p_s p_images p_kept p_notes p_held p_soonest v_trace v_typed (0 : Int32) v_at v_sort v_start v_value v_vanillaIn) H := hP
  have hD : va_D A (w_X5_forget E p_this p_text p_told p_draft p_s p_images p_kept p_notes p_held p_soonest v_trace v_typed (0 : Int32) v_at v_sort v_start v_value v_vanillaIn) := hD
  refine lv_iload_n hx hb dX5_forget_10 rfl (lv_at hl 0 rfl) ?_
  obtain rfl := Option.some.inj hf
  exact hret H locs _ ls rfl hP hS dX5_forget_11

abbrev w_X5_vanilla (E : Ev) (p_this : Nat) (p_text : Nat) (p_told : Nat) (p_draft : Nat) (p_s : Nat) (p_images : Nat) (p_kept : Nat) (p_notes : Nat) (p_held : Nat) (p_soonest : Nat) (v_trace : Int64) (v_typed : Int32) (v_noted : Int32) (v_at : Int32) (v_sort : Int32) (v_start : Int32) (v_value : Int32) (v_vanillaIn : Int32) (f_told : Nat → Int32) (f_notes : Nat → Int32) (f_s : Nat → Int32) : va_W := [(p_this, .inr (5, [.long v_trace, .ref p_text, .int v_typed, .ref p_told, .ref p_draft, .ref p_s, .ref p_images, .ref p_kept, .ref p_notes, .int v_noted, .int v_at, .int v_sort, .int v_start, .int v_value, .int v_vanillaIn, .ref p_held, .ref p_soonest])), (p_told, .inl (E.2.1, 43, .inl f_told)), (p_notes, .inl (E.2.1, 6, .inl f_notes)), (p_s, .inl (E.2.1, 155, .inl f_s))]
set_option maxHeartbeats 4000000 in
set_option maxRecDepth 100000 in
theorem b_X5_vanilla_132 {p : Program} {l : Launch} {e : Env} {s : State} {m : MethodId} {args : Array Value} {below : List Frame} {meth : Method} {c : Code} {Q : State → Prop} {A : Nat → Prop} (E : Ev) (p_this : Nat) (p_text : Nat) (p_told : Nat) (p_draft : Nat) (p_s : Nat) (p_images : Nat) (p_kept : Nat) (p_notes : Nat) (p_held : Nat) (p_soonest : Nat) (v_trace : Int64) (v_typed : Int32) (v_noted : Int32) (v_at : Int32) (v_sort : Int32) (v_start : Int32) (v_value : Int32) (f_told : Nat → Int32) (f_notes : Nat → Int32) (f_s : Nat → Int32) (res : Int32 × Int32) (X : Cx p s m args meth c cX5_vanilla 6 RX5 (some .int)) (hK : KK E A s s.heap) (hA : ∀ q, s.heap.size ≤ q → A q) (hret : RetI p l e (RM 3) s m args below meth c Q E A cX5_vanilla .int (w_X5_vanilla E p_this p_text p_told p_draft p_s p_images p_kept p_notes p_held p_soonest v_trace v_typed v_noted v_at v_sort v_start v_value res.2 f_told f_notes f_s) res.1) (K4 : Int32 → Int32 → Int32 → Option (Int32 × Int32)) (hK4 : ∀ (v_vanillaIn : Int32) (x1 : Int32) (x2 : Int32), K4 v_vanillaIn x1 x2 = some res → ∀ (H : Heap) (locs : List Loc) (ls : Array Slot), lv_has ls 6 [(0, .ref p_this), (1, .int x1), (2, .int x2)] → va_P E.1 classes (w_X5_vanilla E p_this p_text p_told p_draft p_s p_images p_kept p_notes p_held p_soonest v_trace v_typed v_noted v_at v_sort v_start v_value v_vanillaIn f_told f_notes f_s) H → va_D A (w_X5_vanilla E p_this p_text p_told p_draft p_s p_images p_kept p_notes p_held p_soonest v_trace v_typed v_noted v_at v_sort v_start v_value v_vanillaIn f_told f_notes f_s) → va_S A s.heap H locs → W p l e (RM 3) s m args below meth c H locs 0 0 Q (F0 m 4 ls [])) (v_vanillaIn : Int32) (x2 : Int32) (k0 : Int32) (k1 : Int32) (hf : f_X5_vanilla_132 v_noted f_told f_notes f_s  K4 v_vanillaIn x2 k0 k1 = some res) : ∀ (H : Heap) (locs : List Loc) (ls : Array Slot), lv_has ls 6 [(0, .ref p_this), (2, .int x2)] → va_P E.1 classes (w_X5_vanilla E p_this p_text p_told p_draft p_s p_images p_kept p_notes p_held p_soonest v_trace v_typed v_noted v_at v_sort v_start v_value v_vanillaIn f_told f_notes f_s) H → va_D A (w_X5_vanilla E p_this p_text p_told p_draft p_s p_images p_kept p_notes p_held p_soonest v_trace v_typed v_noted v_at v_sort v_start v_value v_vanillaIn f_told f_notes f_s) → va_S A s.heap H locs → W p l e (RM 3) s m args below meth c H locs 0 0 Q (F0 m 132 ls [.int k0, .int k1]) := by
  obtain ⟨hx, hb, hml, hown, hts, hrt, hlk⟩ := id X
  intro H locs ls hl hP hD hS
  unfold f_X5_vanilla_132 at hf
  refine lv_ior hx hb dX5_vanilla_132 ?_
  refine lv_istore_n (lv' := [(1, .int (k1 ||| k0)), (0, .ref p_this), (2, .int x2)]) hx hb dX5_vanilla_133 rfl hl (by decide) rfl (fun ls hl => ?_)
  refine lv_iinc (v := (x2 + (1 : Int32))) (lv' := [(2, .int (x2 + (1 : Int32))), (1, .int (k1 ||| k0)), (0, .ref p_this)]) hx hb dX5_vanilla_134 hl (k := 2) rfl rfl (by decide) rfl (fun ls hl => ?_)
  refine lv_goto (tgt := 4) hx hb dX5_vanilla_137 (by decide) ?_
  exact hK4 v_vanillaIn (k1 ||| k0) (x2 + (1 : Int32)) hf H locs ls (lv_sub hl [2, 1, 0] rfl) hP hD hS

set_option maxHeartbeats 4000000 in
set_option maxRecDepth 100000 in
theorem b_X5_vanilla_113 {p : Program} {l : Launch} {e : Env} {s : State} {m : MethodId} {args : Array Value} {below : List Frame} {meth : Method} {c : Code} {Q : State → Prop} {A : Nat → Prop} (E : Ev) (p_this : Nat) (p_text : Nat) (p_told : Nat) (p_draft : Nat) (p_s : Nat) (p_images : Nat) (p_kept : Nat) (p_notes : Nat) (p_held : Nat) (p_soonest : Nat) (v_trace : Int64) (v_typed : Int32) (v_noted : Int32) (v_at : Int32) (v_sort : Int32) (v_start : Int32) (v_value : Int32) (f_told : Nat → Int32) (f_notes : Nat → Int32) (f_s : Nat → Int32) (res : Int32 × Int32) (X : Cx p s m args meth c cX5_vanilla 6 RX5 (some .int)) (hK : KK E A s s.heap) (hA : ∀ q, s.heap.size ≤ q → A q) (hret : RetI p l e (RM 3) s m args below meth c Q E A cX5_vanilla .int (w_X5_vanilla E p_this p_text p_told p_draft p_s p_images p_kept p_notes p_held p_soonest v_trace v_typed v_noted v_at v_sort v_start v_value res.2 f_told f_notes f_s) res.1) (K4 : Int32 → Int32 → Int32 → Option (Int32 × Int32)) (hK4 : ∀ (v_vanillaIn : Int32) (x1 : Int32) (x2 : Int32), K4 v_vanillaIn x1 x2 = some res → ∀ (H : Heap) (locs : List Loc) (ls : Array Slot), lv_has ls 6 [(0, .ref p_this), (1, .int x1), (2, .int x2)] → va_P E.1 classes (w_X5_vanilla E p_this p_text p_told p_draft p_s p_images p_kept p_notes p_held p_soonest v_trace v_typed v_noted v_at v_sort v_start v_value v_vanillaIn f_told f_notes f_s) H → va_D A (w_X5_vanilla E p_this p_text p_told p_draft p_s p_images p_kept p_notes p_held p_soonest v_trace v_typed v_noted v_at v_sort v_start v_value v_vanillaIn f_told f_notes f_s) → va_S A s.heap H locs → W p l e (RM 3) s m args below meth c H locs 0 0 Q (F0 m 4 ls [])) (K48 : Int32 → Int32 → Int32 → Int32 → Int32 → Option (Int32 × Int32)) (hK48 : ∀ (v_vanillaIn : Int32) (x1 : Int32) (x2 : Int32) (x3 : Int32) (x4 : Int32), K48 v_vanillaIn x1 x2 x3 x4 = some res → ∀ (H : Heap) (locs : List Loc) (ls : Array Slot), lv_has ls 6 [(0, .ref p_this), (1, .int x1), (2, .int x2), (3, .int x3), (4, .int x4)] → va_P E.1 classes (w_X5_vanilla E p_this p_text p_told p_draft p_s p_images p_kept p_notes p_held p_soonest v_trace v_typed v_noted v_at v_sort v_start v_value v_vanillaIn f_told f_notes f_s) H → va_D A (w_X5_vanilla E p_this p_text p_told p_draft p_s p_images p_kept p_notes p_held p_soonest v_trace v_typed v_noted v_at v_sort v_start v_value v_vanillaIn f_told f_notes f_s) → va_S A s.heap H locs → W p l e (RM 3) s m args below meth c H locs 0 0 Q (F0 m 48 ls [])) (v_vanillaIn : Int32) (x1 : Int32) (x2 : Int32) (x4 : Int32) (k0 : Int32) (hf : f_X5_vanilla_113 v_noted f_told f_notes f_s  K4 K48 v_vanillaIn x1 x2 x4 k0 = some res) : ∀ (H : Heap) (locs : List Loc) (ls : Array Slot), lv_has ls 6 [(0, .ref p_this), (1, .int x1), (2, .int x2), (4, .int x4)] → va_P E.1 classes (w_X5_vanilla E p_this p_text p_told p_draft p_s p_images p_kept p_notes p_held p_soonest v_trace v_typed v_noted v_at v_sort v_start v_value v_vanillaIn f_told f_notes f_s) H → va_D A (w_X5_vanilla E p_this p_text p_told p_draft p_s p_images p_kept p_notes p_held p_soonest v_trace v_typed v_noted v_at v_sort v_start v_value v_vanillaIn f_told f_notes f_s) → va_S A s.heap H locs → W p l e (RM 3) s m args below meth c H locs 0 0 Q (F0 m 113 ls [.int k0]) := by
  obtain ⟨hx, hb, hml, hown, hts, hrt, hlk⟩ := id X
  intro H locs ls hl hP hD hS
  unfold f_X5_vanilla_113 at hf
  refine lv_istore_n (lv' := [(3, .int k0), (0, .ref p_this), (1, .int x1), (2, .int x2), (4, .int x4)]) hx hb dX5_vanilla_113 rfl hl (by decide) rfl (fun ls hl => ?_)
  refine lv_iinc (v := (x4 + (1 : Int32))) (lv' := [(4, .int (x4 + (1 : Int32))), (3, .int k0), (0, .ref p_this), (1, .int x1), (2, .int x2)]) hx hb dX5_vanilla_114 hl (k := 4) rfl rfl (by decide) rfl (fun ls hl => ?_)
  refine lv_goto (tgt := 48) hx hb dX5_vanilla_117 (by decide) ?_
  exact hK48 v_vanillaIn x1 x2 k0 (x4 + (1 : Int32)) hf H locs ls (lv_sub hl [2, 3, 4, 1, 0] rfl) hP hD hS

set_option maxHeartbeats 4000000 in
set_option maxRecDepth 100000 in
theorem b_X5_vanilla_112 {p : Program} {l : Launch} {e : Env} {s : State} {m : MethodId} {args : Array Value} {below : List Frame} {meth : Method} {c : Code} {Q : State → Prop} {A : Nat → Prop} (E : Ev) (p_this : Nat) (p_text : Nat) (p_told : Nat) (p_draft : Nat) (p_s : Nat) (p_images : Nat) (p_kept : Nat) (p_notes : Nat) (p_held : Nat) (p_soonest : Nat) (v_trace : Int64) (v_typed : Int32) (v_noted : Int32) (v_at : Int32) (v_sort : Int32) (v_start : Int32) (v_value : Int32) (f_told : Nat → Int32) (f_notes : Nat → Int32) (f_s : Nat → Int32) (res : Int32 × Int32) (X : Cx p s m args meth c cX5_vanilla 6 RX5 (some .int)) (hK : KK E A s s.heap) (hA : ∀ q, s.heap.size ≤ q → A q) (hret : RetI p l e (RM 3) s m args below meth c Q E A cX5_vanilla .int (w_X5_vanilla E p_this p_text p_told p_draft p_s p_images p_kept p_notes p_held p_soonest v_trace v_typed v_noted v_at v_sort v_start v_value res.2 f_told f_notes f_s) res.1) (K4 : Int32 → Int32 → Int32 → Option (Int32 × Int32)) (hK4 : ∀ (v_vanillaIn : Int32) (x1 : Int32) (x2 : Int32), K4 v_vanillaIn x1 x2 = some res → ∀ (H : Heap) (locs : List Loc) (ls : Array Slot), lv_has ls 6 [(0, .ref p_this), (1, .int x1), (2, .int x2)] → va_P E.1 classes (w_X5_vanilla E p_this p_text p_told p_draft p_s p_images p_kept p_notes p_held p_soonest v_trace v_typed v_noted v_at v_sort v_start v_value v_vanillaIn f_told f_notes f_s) H → va_D A (w_X5_vanilla E p_this p_text p_told p_draft p_s p_images p_kept p_notes p_held p_soonest v_trace v_typed v_noted v_at v_sort v_start v_value v_vanillaIn f_told f_notes f_s) → va_S A s.heap H locs → W p l e (RM 3) s m args below meth c H locs 0 0 Q (F0 m 4 ls [])) (K48 : Int32 → Int32 → Int32 → Int32 → Int32 → Option (Int32 × Int32)) (hK48 : ∀ (v_vanillaIn : Int32) (x1 : Int32) (x2 : Int32) (x3 : Int32) (x4 : Int32), K48 v_vanillaIn x1 x2 x3 x4 = some res → ∀ (H : Heap) (locs : List Loc) (ls : Array Slot), lv_has ls 6 [(0, .ref p_this), (1, .int x1), (2, .int x2), (3, .int x3), (4, .int x4)] → va_P E.1 classes (w_X5_vanilla E p_this p_text p_told p_draft p_s p_images p_kept p_notes p_held p_soonest v_trace v_typed v_noted v_at v_sort v_start v_value v_vanillaIn f_told f_notes f_s) H → va_D A (w_X5_vanilla E p_this p_text p_told p_draft p_s p_images p_kept p_notes p_held p_soonest v_trace v_typed v_noted v_at v_sort v_start v_value v_vanillaIn f_told f_notes f_s) → va_S A s.heap H locs → W p l e (RM 3) s m args below meth c H locs 0 0 Q (F0 m 48 ls [])) (v_vanillaIn : Int32) (x1 : Int32) (x2 : Int32) (x4 : Int32) (hf : f_X5_vanilla_112 v_noted f_told f_notes f_s  K4 K48 v_vanillaIn x1 x2 x4 = some res) : ∀ (H : Heap) (locs : List Loc) (ls : Array Slot), lv_has ls 6 [(0, .ref p_this), (1, .int x1), (2, .int x2), (4, .int x4)] → va_P E.1 classes (w_X5_vanilla E p_this p_text p_told p_draft p_s p_images p_kept p_notes p_held p_soonest v_trace v_typed v_noted v_at v_sort v_start v_value v_vanillaIn f_told f_notes f_s) H → va_D A (w_X5_vanilla E p_this p_text p_told p_draft p_s p_images p_kept p_notes p_held p_soonest v_trace v_typed v_noted v_at v_sort v_start v_value v_vanillaIn f_told f_notes f_s) → va_S A s.heap H locs → W p l e (RM 3) s m args below meth c H locs 0 0 Q (F0 m 112 ls []) := by
  obtain ⟨hx, hb, hml, hown, hts, hrt, hlk⟩ := id X
  intro H locs ls hl hP hD hS
  unfold f_X5_vanilla_112 at hf
  refine lv_iconst (v := (0 : Int32)) hx hb dX5_vanilla_112 (by decide) ?_
  exact b_X5_vanilla_113 E p_this p_text p_told p_draft p_s p_images p_kept p_notes p_held p_soonest v_trace v_typed v_noted v_at v_sort v_start v_value f_told f_notes f_s res X hK hA hret  K4 hK4 K48 hK48 v_vanillaIn x1 x2 x4 (0 : Int32) hf H locs ls (lv_sub hl [0, 1, 2, 3] rfl) hP hD hS

set_option maxHeartbeats 4000000 in
set_option maxRecDepth 100000 in
theorem b_X5_vanilla_48 {p : Program} {l : Launch} {e : Env} {s : State} {m : MethodId} {args : Array Value} {below : List Frame} {meth : Method} {c : Code} {Q : State → Prop} {A : Nat → Prop} (E : Ev) (p_this : Nat) (p_text : Nat) (p_told : Nat) (p_draft : Nat) (p_s : Nat) (p_images : Nat) (p_kept : Nat) (p_notes : Nat) (p_held : Nat) (p_soonest : Nat) (v_trace : Int64) (v_typed : Int32) (v_noted : Int32) (v_at : Int32) (v_sort : Int32) (v_start : Int32) (v_value : Int32) (f_told : Nat → Int32) (f_notes : Nat → Int32) (f_s : Nat → Int32) (res : Int32 × Int32) (X : Cx p s m args meth c cX5_vanilla 6 RX5 (some .int)) (hK : KK E A s s.heap) (hA : ∀ q, s.heap.size ≤ q → A q) (hret : RetI p l e (RM 3) s m args below meth c Q E A cX5_vanilla .int (w_X5_vanilla E p_this p_text p_told p_draft p_s p_images p_kept p_notes p_held p_soonest v_trace v_typed v_noted v_at v_sort v_start v_value res.2 f_told f_notes f_s) res.1) (K4 : Int32 → Int32 → Int32 → Option (Int32 × Int32)) (hK4 : ∀ (v_vanillaIn : Int32) (x1 : Int32) (x2 : Int32), K4 v_vanillaIn x1 x2 = some res → ∀ (H : Heap) (locs : List Loc) (ls : Array Slot), lv_has ls 6 [(0, .ref p_this), (1, .int x1), (2, .int x2)] → va_P E.1 classes (w_X5_vanilla E p_this p_text p_told p_draft p_s p_images p_kept p_notes p_held p_soonest v_trace v_typed v_noted v_at v_sort v_start v_value v_vanillaIn f_told f_notes f_s) H → va_D A (w_X5_vanilla E p_this p_text p_told p_draft p_s p_images p_kept p_notes p_held p_soonest v_trace v_typed v_noted v_at v_sort v_start v_value v_vanillaIn f_told f_notes f_s) → va_S A s.heap H locs → W p l e (RM 3) s m args below meth c H locs 0 0 Q (F0 m 4 ls [])) : ∀ (n : Nat) (v_vanillaIn : Int32) (x1 : Int32) (x2 : Int32) (x3 : Int32) (x4 : Int32), f_X5_vanilla_48 v_noted f_told f_notes f_s  K4 n v_vanillaIn x1 x2 x3 x4 = some res → ∀ (H : Heap) (locs : List Loc) (ls : Array Slot), lv_has ls 6 [(0, .ref p_this), (1, .int x1), (2, .int x2), (3, .int x3), (4, .int x4)] → va_P E.1 classes (w_X5_vanilla E p_this p_text p_told p_draft p_s p_images p_kept p_notes p_held p_soonest v_trace v_typed v_noted v_at v_sort v_start v_value v_vanillaIn f_told f_notes f_s) H → va_D A (w_X5_vanilla E p_this p_text p_told p_draft p_s p_images p_kept p_notes p_held p_soonest v_trace v_typed v_noted v_at v_sort v_start v_value v_vanillaIn f_told f_notes f_s) → va_S A s.heap H locs → W p l e (RM 3) s m args below meth c H locs 0 0 Q (F0 m 48 ls []) := by
  obtain ⟨hx, hb, hml, hown, hts, hrt, hlk⟩ := id X
  intro n
  induction n with
  | zero => intro v_vanillaIn x1 x2 x3 x4 hf; exact absurd hf (by simp [f_X5_vanilla_48])
  | succ n ih =>
    intro v_vanillaIn x1 x2 x3 x4 hf H locs ls hl hP hD hS
    unfold f_X5_vanilla_48 at hf
    refine lv_iload hx hb dX5_vanilla_48 (lv_at hl 4 rfl) ?_
    refine lv_aload_n hx hb dX5_vanilla_50 rfl (lv_at hl 0 rfl) ?_
    refine gf_RX5_88 X hK hP 0 rfl rfl dX5_vanilla_51 ?_
    refine lv_icmp_ge (tgt := 120) hx hb dX5_vanilla_54 (by decide) (fun c_1 => ?_) (fun c_1 => ?_)
    · replace hf := ot c_1 hf
      refine lv_iload_n hx hb dX5_vanilla_120 rfl (lv_at hl 1 rfl) ?_
      refine lv_iload_n hx hb dX5_vanilla_121 rfl (lv_at hl 3 rfl) ?_
      refine lv_if_eq (tgt := 131) hx hb dX5_vanilla_122 (by decide) (fun c_2 => ?_) (fun c_2 => ?_)
      · replace hf := ot c_2 hf
        refine lv_iconst (v := (0 : Int32)) hx hb dX5_vanilla_131 (by decide) ?_
        exact b_X5_vanilla_132 E p_this p_text p_told p_draft p_s p_images p_kept p_notes p_held p_soonest v_trace v_typed v_noted v_at v_sort v_start v_value f_told f_notes f_s res X hK hA hret  K4 hK4 v_vanillaIn x2 (0 : Int32) x1 hf H locs ls (lv_sub hl [0, 2] rfl) hP hD hS
      · replace hf := of c_2 hf
        refine lv_iconst (v := (1 : Int32)) hx hb dX5_vanilla_125 (by decide) ?_
        refine lv_iload_n hx hb dX5_vanilla_126 rfl (lv_at hl 2 rfl) ?_
        refine lv_ishl hx hb dX5_vanilla_127 ?_
        refine lv_goto (tgt := 132) hx hb dX5_vanilla_128 (by decide) ?_
        exact b_X5_vanilla_132 E p_this p_text p_told p_draft p_s p_images p_kept p_notes p_held p_soonest v_trace v_typed v_noted v_at v_sort v_start v_value f_told f_notes f_s res X hK hA hret  K4 hK4 v_vanillaIn x2 ((1 : Int32) <<< (x2 &&& 31)) x1 hf H locs ls (lv_sub hl [0, 2] rfl) hP hD hS
    · replace hf := of c_1 hf
      refine lv_aload_n hx hb dX5_vanilla_57 rfl (lv_at hl 0 rfl) ?_
      refine gf_RX5_29 X hK hP 0 rfl rfl dX5_vanilla_58 ?_
      refine lv_iload hx hb dX5_vanilla_61 (lv_at hl 4 rfl) ?_
      obtain ⟨g_3, hf⟩ := og hf
      refine iald X hK hP 2 rfl _ rfl g_3 dX5_vanilla_63 ?_
      refine lv_bipush (v := (10 : Int32)) hx hb dX5_vanilla_64 (by decide) ?_
      refine lv_idiv hx hb dX5_vanilla_66 (by decide) ?_
      refine lv_istore (lv' := [(5, .int ((f_notes x4.toNatClampNeg) / (10 : Int32))), (0, .ref p_this), (1, .int x1), (2, .int x2), (3, .int x3), (4, .int x4)]) hx hb dX5_vanilla_67 hl (by decide) rfl (fun ls hl => ?_)
      refine lv_iload_n hx hb dX5_vanilla_69 rfl (lv_at hl 4 rfl) ?_
      refine lv_if_eq (tgt := 112) hx hb dX5_vanilla_70 (by decide) (fun c_5 => ?_) (fun c_5 => ?_)
      · replace hf := ot c_5 hf
        exact b_X5_vanilla_112 E p_this p_text p_told p_draft p_s p_images p_kept p_notes p_held p_soonest v_trace v_typed v_noted v_at v_sort v_start v_value f_told f_notes f_s res X hK hA hret  K4 hK4 (f_X5_vanilla_48 v_noted f_told f_notes f_s  K4 n) ih v_vanillaIn x1 x2 x4 hf H locs ls (lv_sub hl [1, 2, 3, 5] rfl) hP hD hS
      · replace hf := of c_5 hf
        refine lv_aload_n hx hb dX5_vanilla_73 rfl (lv_at hl 1 rfl) ?_
        refine lv_iload hx hb dX5_vanilla_74 (lv_at hl 0 rfl) ?_
        obtain ⟨u_6, hu_6, hf⟩ := ob hf
        refine pV X hK hA hP hS hl.1 (m_X5_isOut (l := l) E p_this p_text p_told p_draft p_s p_images p_kept p_notes p_held p_soonest v_trace v_typed v_noted v_at v_sort v_start v_value v_vanillaIn f_s ((f_notes x4.toNatClampNeg) / (10 : Int32)) u_6 hu_6) kRX5_114 [0, 3] rfl rfl rfl rfl ⟨⟨(Nat.le_of_ble_eq_true rfl), (Nat.le_of_ble_eq_true rfl)⟩, Nat.zero_le _, Nat.zero_le _⟩ rfl rfl (Nat.le_of_ble_eq_true rfl) dX5_vanilla_76 (fun H locs hP hS => ?_)
        refine lv_if_eq (tgt := 112) hx hb dX5_vanilla_79 (by decide) (fun c_7 => ?_) (fun c_7 => ?_)
        · replace hf := ot c_7 hf
          exact b_X5_vanilla_112 E p_this p_text p_told p_draft p_s p_images p_kept p_notes p_held p_soonest v_trace v_typed v_noted v_at v_sort v_start v_value f_told f_notes f_s res X hK hA hret  K4 hK4 (f_X5_vanilla_48 v_noted f_told f_notes f_s  K4 n) ih v_vanillaIn x1 x2 x4 hf H locs ls (lv_sub hl [1, 2, 3, 5] rfl) hP hD hS
        · replace hf := of c_7 hf
          refine lv_aload_n hx hb dX5_vanilla_82 rfl (lv_at hl 1 rfl) ?_
          refine lv_iload hx hb dX5_vanilla_83 (lv_at hl 0 rfl) ?_
          refine lv_aload_n hx hb dX5_vanilla_85 rfl (lv_at hl 1 rfl) ?_
          refine gf_RX5_19 X hK hP 0 rfl rfl dX5_vanilla_86 ?_
          refine lv_bipush (v := (12 : Int32)) hx hb dX5_vanilla_89 (by decide) ?_
          refine iald X hK hP 3 rfl 12 (by decide) (by decide) dX5_vanilla_91 ?_
          obtain ⟨u_9, hu_9, hf⟩ := ob hf
          refine pV X hK hA hP hS hl.1 (m_X5_noseOf (l := l) E p_this p_text p_told p_draft p_s p_images p_kept p_notes p_held p_soonest v_trace v_typed v_noted v_at v_sort v_start v_value v_vanillaIn f_told f_s ((f_notes x4.toNatClampNeg) / (10 : Int32)) (f_s 12) u_9 hu_9) kRX5_117 [0, 1, 3] rfl rfl rfl rfl ⟨⟨(Nat.le_of_ble_eq_true rfl), (Nat.le_of_ble_eq_true rfl)⟩, Nat.zero_le _, Nat.zero_le _⟩ rfl rfl (Nat.le_of_ble_eq_true rfl) dX5_vanilla_92 (fun H locs hP hS => ?_)
          refine lv_aload_n hx hb dX5_vanilla_95 rfl (lv_at hl 1 rfl) ?_
          refine gf_RX5_29 X hK hP 0 rfl rfl dX5_vanilla_96 ?_
          refine lv_iload hx hb dX5_vanilla_99 (lv_at hl 5 rfl) ?_
          obtain ⟨g_10, hf⟩ := og hf
          refine iald X hK hP 2 rfl _ rfl g_10 dX5_vanilla_101 ?_
          refine lv_bipush (v := (10 : Int32)) hx hb dX5_vanilla_102 (by decide) ?_
          refine lv_irem hx hb dX5_vanilla_104 (by decide) ?_
          refine lv_icmp_ne (tgt := 112) hx hb dX5_vanilla_105 (by decide) (fun c_12 => ?_) (fun c_12 => ?_)
          · replace hf := of c_12 hf
            exact b_X5_vanilla_112 E p_this p_text p_told p_draft p_s p_images p_kept p_notes p_held p_soonest v_trace v_typed v_noted v_at v_sort v_start v_value f_told f_notes f_s res X hK hA hret  K4 hK4 (f_X5_vanilla_48 v_noted f_told f_notes f_s  K4 n) ih v_vanillaIn x1 x2 x4 hf H locs ls (lv_sub hl [1, 2, 3, 5] rfl) hP hD hS
          · replace hf := ot c_12 hf
            refine lv_iconst (v := (1 : Int32)) hx hb dX5_vanilla_108 (by decide) ?_
            refine lv_goto (tgt := 113) hx hb dX5_vanilla_109 (by decide) ?_
            exact b_X5_vanilla_113 E p_this p_text p_told p_draft p_s p_images p_kept p_notes p_held p_soonest v_trace v_typed v_noted v_at v_sort v_start v_value f_told f_notes f_s res X hK hA hret  K4 hK4 (f_X5_vanilla_48 v_noted f_told f_notes f_s  K4 n) ih v_vanillaIn x1 x2 x4 (1 : Int32) hf H locs ls (lv_sub hl [1, 2, 3, 5] rfl) hP hD hS

set_option maxHeartbeats 4000000 in
set_option maxRecDepth 100000 in
theorem b_X5_vanilla_44 {p : Program} {l : Launch} {e : Env} {s : State} {m : MethodId} {args : Array Value} {below : List Frame} {meth : Method} {c : Code} {Q : State → Prop} {A : Nat → Prop} (E : Ev) (p_this : Nat) (p_text : Nat) (p_told : Nat) (p_draft : Nat) (p_s : Nat) (p_images : Nat) (p_kept : Nat) (p_notes : Nat) (p_held : Nat) (p_soonest : Nat) (v_trace : Int64) (v_typed : Int32) (v_noted : Int32) (v_at : Int32) (v_sort : Int32) (v_start : Int32) (v_value : Int32) (f_told : Nat → Int32) (f_notes : Nat → Int32) (f_s : Nat → Int32) (res : Int32 × Int32) (X : Cx p s m args meth c cX5_vanilla 6 RX5 (some .int)) (hK : KK E A s s.heap) (hA : ∀ q, s.heap.size ≤ q → A q) (hret : RetI p l e (RM 3) s m args below meth c Q E A cX5_vanilla .int (w_X5_vanilla E p_this p_text p_told p_draft p_s p_images p_kept p_notes p_held p_soonest v_trace v_typed v_noted v_at v_sort v_start v_value res.2 f_told f_notes f_s) res.1) (K4 : Int32 → Int32 → Int32 → Option (Int32 × Int32)) (hK4 : ∀ (v_vanillaIn : Int32) (x1 : Int32) (x2 : Int32), K4 v_vanillaIn x1 x2 = some res → ∀ (H : Heap) (locs : List Loc) (ls : Array Slot), lv_has ls 6 [(0, .ref p_this), (1, .int x1), (2, .int x2)] → va_P E.1 classes (w_X5_vanilla E p_this p_text p_told p_draft p_s p_images p_kept p_notes p_held p_soonest v_trace v_typed v_noted v_at v_sort v_start v_value v_vanillaIn f_told f_notes f_s) H → va_D A (w_X5_vanilla E p_this p_text p_told p_draft p_s p_images p_kept p_notes p_held p_soonest v_trace v_typed v_noted v_at v_sort v_start v_value v_vanillaIn f_told f_notes f_s) → va_S A s.heap H locs → W p l e (RM 3) s m args below meth c H locs 0 0 Q (F0 m 4 ls [])) (v_vanillaIn : Int32) (x1 : Int32) (x2 : Int32) (k0 : Int32) (hf : f_X5_vanilla_44 v_noted f_told f_notes f_s  K4 v_vanillaIn x1 x2 k0 = some res) : ∀ (H : Heap) (locs : List Loc) (ls : Array Slot), lv_has ls 6 [(0, .ref p_this), (1, .int x1), (2, .int x2)] → va_P E.1 classes (w_X5_vanilla E p_this p_text p_told p_draft p_s p_images p_kept p_notes p_held p_soonest v_trace v_typed v_noted v_at v_sort v_start v_value v_vanillaIn f_told f_notes f_s) H → va_D A (w_X5_vanilla E p_this p_text p_told p_draft p_s p_images p_kept p_notes p_held p_soonest v_trace v_typed v_noted v_at v_sort v_start v_value v_vanillaIn f_told f_notes f_s) → va_S A s.heap H locs → W p l e (RM 3) s m args below meth c H locs 0 0 Q (F0 m 44 ls [.int k0]) := by
  obtain ⟨hx, hb, hml, hown, hts, hrt, hlk⟩ := id X
  intro H locs ls hl hP hD hS
  unfold f_X5_vanilla_44 at hf
  refine lv_istore_n (lv' := [(3, .int k0), (0, .ref p_this), (1, .int x1), (2, .int x2)]) hx hb dX5_vanilla_44 rfl hl (by decide) rfl (fun ls hl => ?_)
  refine lv_iconst (v := (0 : Int32)) hx hb dX5_vanilla_45 (by decide) ?_
  refine lv_istore (lv' := [(4, .int (0 : Int32)), (3, .int k0), (0, .ref p_this), (1, .int x1), (2, .int x2)]) hx hb dX5_vanilla_46 hl (by decide) rfl (fun ls hl => ?_)
  exact b_X5_vanilla_48 E p_this p_text p_told p_draft p_s p_images p_kept p_notes p_held p_soonest v_trace v_typed v_noted v_at v_sort v_start v_value f_told f_notes f_s res X hK hA hret  K4 hK4 FU v_vanillaIn x1 x2 k0 (0 : Int32) hf H locs ls (lv_sub hl [2, 3, 4, 1, 0] rfl) hP hD hS

set_option maxHeartbeats 4000000 in
set_option maxRecDepth 100000 in
theorem b_X5_vanilla_39 {p : Program} {l : Launch} {e : Env} {s : State} {m : MethodId} {args : Array Value} {below : List Frame} {meth : Method} {c : Code} {Q : State → Prop} {A : Nat → Prop} (E : Ev) (p_this : Nat) (p_text : Nat) (p_told : Nat) (p_draft : Nat) (p_s : Nat) (p_images : Nat) (p_kept : Nat) (p_notes : Nat) (p_held : Nat) (p_soonest : Nat) (v_trace : Int64) (v_typed : Int32) (v_noted : Int32) (v_at : Int32) (v_sort : Int32) (v_start : Int32) (v_value : Int32) (f_told : Nat → Int32) (f_notes : Nat → Int32) (f_s : Nat → Int32) (res : Int32 × Int32) (X : Cx p s m args meth c cX5_vanilla 6 RX5 (some .int)) (hK : KK E A s s.heap) (hA : ∀ q, s.heap.size ≤ q → A q) (hret : RetI p l e (RM 3) s m args below meth c Q E A cX5_vanilla .int (w_X5_vanilla E p_this p_text p_told p_draft p_s p_images p_kept p_notes p_held p_soonest v_trace v_typed v_noted v_at v_sort v_start v_value res.2 f_told f_notes f_s) res.1) (K4 : Int32 → Int32 → Int32 → Option (Int32 × Int32)) (hK4 : ∀ (v_vanillaIn : Int32) (x1 : Int32) (x2 : Int32), K4 v_vanillaIn x1 x2 = some res → ∀ (H : Heap) (locs : List Loc) (ls : Array Slot), lv_has ls 6 [(0, .ref p_this), (1, .int x1), (2, .int x2)] → va_P E.1 classes (w_X5_vanilla E p_this p_text p_told p_draft p_s p_images p_kept p_notes p_held p_soonest v_trace v_typed v_noted v_at v_sort v_start v_value v_vanillaIn f_told f_notes f_s) H → va_D A (w_X5_vanilla E p_this p_text p_told p_draft p_s p_images p_kept p_notes p_held p_soonest v_trace v_typed v_noted v_at v_sort v_start v_value v_vanillaIn f_told f_notes f_s) → va_S A s.heap H locs → W p l e (RM 3) s m args below meth c H locs 0 0 Q (F0 m 4 ls [])) (v_vanillaIn : Int32) (x1 : Int32) (x2 : Int32) (hf : f_X5_vanilla_39 v_noted f_told f_notes f_s  K4 v_vanillaIn x1 x2 = some res) : ∀ (H : Heap) (locs : List Loc) (ls : Array Slot), lv_has ls 6 [(0, .ref p_this), (1, .int x1), (2, .int x2)] → va_P E.1 classes (w_X5_vanilla E p_this p_text p_told p_draft p_s p_images p_kept p_notes p_held p_soonest v_trace v_typed v_noted v_at v_sort v_start v_value v_vanillaIn f_told f_notes f_s) H → va_D A (w_X5_vanilla E p_this p_text p_told p_draft p_s p_images p_kept p_notes p_held p_soonest v_trace v_typed v_noted v_at v_sort v_start v_value v_vanillaIn f_told f_notes f_s) → va_S A s.heap H locs → W p l e (RM 3) s m args below meth c H locs 0 0 Q (F0 m 39 ls []) := by
  obtain ⟨hx, hb, hml, hown, hts, hrt, hlk⟩ := id X
  intro H locs ls hl hP hD hS
  unfold f_X5_vanilla_39 at hf
  refine lv_iconst (v := (1 : Int32)) hx hb dX5_vanilla_39 (by decide) ?_
  refine lv_goto (tgt := 44) hx hb dX5_vanilla_40 (by decide) ?_
  exact b_X5_vanilla_44 E p_this p_text p_told p_draft p_s p_images p_kept p_notes p_held p_soonest v_trace v_typed v_noted v_at v_sort v_start v_value f_told f_notes f_s res X hK hA hret  K4 hK4 v_vanillaIn x1 x2 (1 : Int32) hf H locs ls (lv_sub hl [0, 1, 2] rfl) hP hD hS

set_option maxHeartbeats 4000000 in
set_option maxRecDepth 100000 in
theorem b_X5_vanilla_21 {p : Program} {l : Launch} {e : Env} {s : State} {m : MethodId} {args : Array Value} {below : List Frame} {meth : Method} {c : Code} {Q : State → Prop} {A : Nat → Prop} (E : Ev) (p_this : Nat) (p_text : Nat) (p_told : Nat) (p_draft : Nat) (p_s : Nat) (p_images : Nat) (p_kept : Nat) (p_notes : Nat) (p_held : Nat) (p_soonest : Nat) (v_trace : Int64) (v_typed : Int32) (v_noted : Int32) (v_at : Int32) (v_sort : Int32) (v_start : Int32) (v_value : Int32) (f_told : Nat → Int32) (f_notes : Nat → Int32) (f_s : Nat → Int32) (res : Int32 × Int32) (X : Cx p s m args meth c cX5_vanilla 6 RX5 (some .int)) (hK : KK E A s s.heap) (hA : ∀ q, s.heap.size ≤ q → A q) (hret : RetI p l e (RM 3) s m args below meth c Q E A cX5_vanilla .int (w_X5_vanilla E p_this p_text p_told p_draft p_s p_images p_kept p_notes p_held p_soonest v_trace v_typed v_noted v_at v_sort v_start v_value res.2 f_told f_notes f_s) res.1) (K4 : Int32 → Int32 → Int32 → Option (Int32 × Int32)) (hK4 : ∀ (v_vanillaIn : Int32) (x1 : Int32) (x2 : Int32), K4 v_vanillaIn x1 x2 = some res → ∀ (H : Heap) (locs : List Loc) (ls : Array Slot), lv_has ls 6 [(0, .ref p_this), (1, .int x1), (2, .int x2)] → va_P E.1 classes (w_X5_vanilla E p_this p_text p_told p_draft p_s p_images p_kept p_notes p_held p_soonest v_trace v_typed v_noted v_at v_sort v_start v_value v_vanillaIn f_told f_notes f_s) H → va_D A (w_X5_vanilla E p_this p_text p_told p_draft p_s p_images p_kept p_notes p_held p_soonest v_trace v_typed v_noted v_at v_sort v_start v_value v_vanillaIn f_told f_notes f_s) → va_S A s.heap H locs → W p l e (RM 3) s m args below meth c H locs 0 0 Q (F0 m 4 ls [])) (v_vanillaIn : Int32) (x1 : Int32) (x2 : Int32) (k0 : Int32) (hf : f_X5_vanilla_21 v_noted f_told f_notes f_s  K4 v_vanillaIn x1 x2 k0 = some res) : ∀ (H : Heap) (locs : List Loc) (ls : Array Slot), lv_has ls 6 [(0, .ref p_this), (1, .int x1), (2, .int x2)] → va_P E.1 classes (w_X5_vanilla E p_this p_text p_told p_draft p_s p_images p_kept p_notes p_held p_soonest v_trace v_typed v_noted v_at v_sort v_start v_value v_vanillaIn f_told f_notes f_s) H → va_D A (w_X5_vanilla E p_this p_text p_told p_draft p_s p_images p_kept p_notes p_held p_soonest v_trace v_typed v_noted v_at v_sort v_start v_value v_vanillaIn f_told f_notes f_s) → va_S A s.heap H locs → W p l e (RM 3) s m args below meth c H locs 0 0 Q (F0 m 21 ls [.int k0, .ref p_this]) := by
  obtain ⟨hx, hb, hml, hown, hts, hrt, hlk⟩ := id X
  intro H locs ls hl hP hD hS
  unfold f_X5_vanilla_21 at hf
  refine pf_RX5_32 X hK hP hD hS 0 rfl rfl dX5_vanilla_21 (fun H locs hP hD hS => ?_)
  have hP : va_P E.1 classes (w_X5_vanilla E p_this p_text p_told p_draft p_s p_images p_kept p_notes p_held p_soonest v_trace v_typed v_noted v_at v_sort v_start v_value k0 f_told f_notes f_s) H := hP
  have hD : va_D A (w_X5_vanilla E p_this p_text p_told p_draft p_s p_images p_kept p_notes p_held p_soonest v_trace v_typed v_noted v_at v_sort v_start v_value k0 f_told f_notes f_s) := hD
  refine lv_iload_n hx hb dX5_vanilla_24 rfl (lv_at hl 2 rfl) ?_
  refine lv_iconst (v := (5 : Int32)) hx hb dX5_vanilla_25 (by decide) ?_
  refine lv_icmp_eq (tgt := 39) hx hb dX5_vanilla_26 (by decide) (fun c_1 => ?_) (fun c_1 => ?_)
  · replace hf := ot c_1 hf
    exact b_X5_vanilla_39 E p_this p_text p_told p_draft p_s p_images p_kept p_notes p_held p_soonest v_trace v_typed v_noted v_at v_sort v_start v_value f_told f_notes f_s res X hK hA hret  K4 hK4 k0 x1 x2 hf H locs ls (lv_sub hl [0, 1, 2] rfl) hP hD hS
  · replace hf := of c_1 hf
    refine lv_iload_n hx hb dX5_vanilla_29 rfl (lv_at hl 2 rfl) ?_
    refine lv_aload_n hx hb dX5_vanilla_30 rfl (lv_at hl 0 rfl) ?_
    refine gf_RX5_13 X hK hP 0 rfl rfl dX5_vanilla_31 ?_
    refine lv_iconst (v := (0 : Int32)) hx hb dX5_vanilla_34 (by decide) ?_
    refine iald X hK hP 1 rfl 0 (by decide) (by decide) dX5_vanilla_35 ?_
    refine lv_icmp_ge (tgt := 43) hx hb dX5_vanilla_36 (by decide) (fun c_3 => ?_) (fun c_3 => ?_)
    · replace hf := ot c_3 hf
      refine lv_iconst (v := (0 : Int32)) hx hb dX5_vanilla_43 (by decide) ?_
      exact b_X5_vanilla_44 E p_this p_text p_told p_draft p_s p_images p_kept p_notes p_held p_soonest v_trace v_typed v_noted v_at v_sort v_start v_value f_told f_notes f_s res X hK hA hret  K4 hK4 k0 x1 x2 (0 : Int32) hf H locs ls (lv_sub hl [0, 1, 2] rfl) hP hD hS
    · replace hf := of c_3 hf
      exact b_X5_vanilla_39 E p_this p_text p_told p_draft p_s p_images p_kept p_notes p_held p_soonest v_trace v_typed v_noted v_at v_sort v_start v_value f_told f_notes f_s res X hK hA hret  K4 hK4 k0 x1 x2 hf H locs ls (lv_sub hl [0, 1, 2] rfl) hP hD hS

set_option maxHeartbeats 4000000 in
set_option maxRecDepth 100000 in
theorem b_X5_vanilla_4 {p : Program} {l : Launch} {e : Env} {s : State} {m : MethodId} {args : Array Value} {below : List Frame} {meth : Method} {c : Code} {Q : State → Prop} {A : Nat → Prop} (E : Ev) (p_this : Nat) (p_text : Nat) (p_told : Nat) (p_draft : Nat) (p_s : Nat) (p_images : Nat) (p_kept : Nat) (p_notes : Nat) (p_held : Nat) (p_soonest : Nat) (v_trace : Int64) (v_typed : Int32) (v_noted : Int32) (v_at : Int32) (v_sort : Int32) (v_start : Int32) (v_value : Int32) (f_told : Nat → Int32) (f_notes : Nat → Int32) (f_s : Nat → Int32) (res : Int32 × Int32) (X : Cx p s m args meth c cX5_vanilla 6 RX5 (some .int)) (hK : KK E A s s.heap) (hA : ∀ q, s.heap.size ≤ q → A q) (hret : RetI p l e (RM 3) s m args below meth c Q E A cX5_vanilla .int (w_X5_vanilla E p_this p_text p_told p_draft p_s p_images p_kept p_notes p_held p_soonest v_trace v_typed v_noted v_at v_sort v_start v_value res.2 f_told f_notes f_s) res.1)  : ∀ (n : Nat) (v_vanillaIn : Int32) (x1 : Int32) (x2 : Int32), f_X5_vanilla_4 v_noted f_told f_notes f_s   n v_vanillaIn x1 x2 = some res → ∀ (H : Heap) (locs : List Loc) (ls : Array Slot), lv_has ls 6 [(0, .ref p_this), (1, .int x1), (2, .int x2)] → va_P E.1 classes (w_X5_vanilla E p_this p_text p_told p_draft p_s p_images p_kept p_notes p_held p_soonest v_trace v_typed v_noted v_at v_sort v_start v_value v_vanillaIn f_told f_notes f_s) H → va_D A (w_X5_vanilla E p_this p_text p_told p_draft p_s p_images p_kept p_notes p_held p_soonest v_trace v_typed v_noted v_at v_sort v_start v_value v_vanillaIn f_told f_notes f_s) → va_S A s.heap H locs → W p l e (RM 3) s m args below meth c H locs 0 0 Q (F0 m 4 ls []) := by
  obtain ⟨hx, hb, hml, hown, hts, hrt, hlk⟩ := id X
  intro n
  induction n with
  | zero => intro v_vanillaIn x1 x2 hf; exact absurd hf (by simp [f_X5_vanilla_4])
  | succ n ih =>
    intro v_vanillaIn x1 x2 hf H locs ls hl hP hD hS
    unfold f_X5_vanilla_4 at hf
    refine lv_iload_n hx hb dX5_vanilla_4 rfl (lv_at hl 2 rfl) ?_
    refine lv_iconst (v := (5 : Int32)) hx hb dX5_vanilla_5 (by decide) ?_
    refine lv_icmp_gt (tgt := 140) hx hb dX5_vanilla_6 (by decide) (fun c_1 => ?_) (fun c_1 => ?_)
    · replace hf := ot c_1 hf
      refine lv_aload_n hx hb dX5_vanilla_140 rfl (lv_at hl 0 rfl) ?_
      refine lv_bipush (v := (-9 : Int32)) hx hb dX5_vanilla_141 (by decide) ?_
      refine pf_RX5_32 X hK hP hD hS 0 rfl rfl dX5_vanilla_143 (fun H locs hP hD hS => ?_)
      have hP : va_P E.1 classes (w_X5_vanilla E p_this p_text p_told p_draft p_s p_images p_kept p_notes p_held p_soonest v_trace v_typed v_noted v_at v_sort v_start v_value (-9 : Int32) f_told f_notes f_s) H := hP
      have hD : va_D A (w_X5_vanilla E p_this p_text p_told p_draft p_s p_images p_kept p_notes p_held p_soonest v_trace v_typed v_noted v_at v_sort v_start v_value (-9 : Int32) f_told f_notes f_s) := hD
      refine lv_iload_n hx hb dX5_vanilla_146 rfl (lv_at hl 1 rfl) ?_
      obtain rfl := Option.some.inj hf
      exact hret H locs _ ls rfl hP hS dX5_vanilla_147
    · replace hf := of c_1 hf
      refine lv_aload_n hx hb dX5_vanilla_9 rfl (lv_at hl 0 rfl) ?_
      refine lv_iload_n hx hb dX5_vanilla_10 rfl (lv_at hl 2 rfl) ?_
      refine lv_iconst (v := (5 : Int32)) hx hb dX5_vanilla_11 (by decide) ?_
      refine lv_icmp_ne (tgt := 20) hx hb dX5_vanilla_12 (by decide) (fun c_2 => ?_) (fun c_2 => ?_)
      · replace hf := of c_2 hf
        refine lv_iload_n hx hb dX5_vanilla_20 rfl (lv_at hl 2 rfl) ?_
        exact b_X5_vanilla_21 E p_this p_text p_told p_draft p_s p_images p_kept p_notes p_held p_soonest v_trace v_typed v_noted v_at v_sort v_start v_value f_told f_notes f_s res X hK hA hret  (f_X5_vanilla_4 v_noted f_told f_notes f_s   n) ih v_vanillaIn x1 x2 x2 hf H locs ls (lv_sub hl [0, 1, 2] rfl) hP hD hS
      · replace hf := ot c_2 hf
        refine lv_bipush (v := (-9 : Int32)) hx hb dX5_vanilla_15 (by decide) ?_
        refine lv_goto (tgt := 21) hx hb dX5_vanilla_17 (by decide) ?_
        exact b_X5_vanilla_21 E p_this p_text p_told p_draft p_s p_images p_kept p_notes p_held p_soonest v_trace v_typed v_noted v_at v_sort v_start v_value f_told f_notes f_s res X hK hA hret  (f_X5_vanilla_4 v_noted f_told f_notes f_s   n) ih v_vanillaIn x1 x2 (-9 : Int32) hf H locs ls (lv_sub hl [0, 1, 2] rfl) hP hD hS

set_option maxHeartbeats 4000000 in
set_option maxRecDepth 100000 in
theorem m_X5_vanilla {l : Launch} (E : Ev) (p_this : Nat) (p_text : Nat) (p_told : Nat) (p_draft : Nat) (p_s : Nat) (p_images : Nat) (p_kept : Nat) (p_notes : Nat) (p_held : Nat) (p_soonest : Nat) (v_trace : Int64) (v_typed : Int32) (v_noted : Int32) (v_at : Int32) (v_sort : Int32) (v_start : Int32) (v_value : Int32) (v_vanillaIn : Int32) (f_told : Nat → Int32) (f_notes : Nat → Int32) (f_s : Nat → Int32)  (res : Int32 × Int32) (hf : f_X5_vanilla  v_noted f_told f_notes f_s v_vanillaIn  = some res) : MutI l E 3 yX5_vanilla cX5_vanilla 6 .int [.ref p_this] (w_X5_vanilla E p_this p_text p_told p_draft p_s p_images p_kept p_notes p_held p_soonest v_trace v_typed v_noted v_at v_sort v_start v_value v_vanillaIn f_told f_notes f_s) (w_X5_vanilla E p_this p_text p_told p_draft p_s p_images p_kept p_notes p_held p_soonest v_trace v_typed v_noted v_at v_sort v_start v_value res.2 f_told f_notes f_s) res.1 := by
  refine MutI.of (by decide) (Nat.le_of_ble_eq_true rfl) ?_
  intro p e s m args below meth c Q A X hK hA hret H locs ls hl hP hD hS
  obtain ⟨hx, hb, hml, hown, hts, hrt, hlk⟩ := id X
  have hl : lv_has ls 6 [(0, .ref p_this)] := hl
  unfold f_X5_vanilla at hf
  refine lv_iconst (v := (0 : Int32)) hx hb dX5_vanilla_0 (by decide) ?_
  refine lv_istore_n (lv' := [(1, .int (0 : Int32)), (0, .ref p_this)]) hx hb dX5_vanilla_1 rfl hl (by decide) rfl (fun ls hl => ?_)
  refine lv_iconst (v := (0 : Int32)) hx hb dX5_vanilla_2 (by decide) ?_
  refine lv_istore_n (lv' := [(2, .int (0 : Int32)), (1, .int (0 : Int32)), (0, .ref p_this)]) hx hb dX5_vanilla_3 rfl hl (by decide) rfl (fun ls hl => ?_)
  exact b_X5_vanilla_4 E p_this p_text p_told p_draft p_s p_images p_kept p_notes p_held p_soonest v_trace v_typed v_noted v_at v_sort v_start v_value f_told f_notes f_s res X hK hA hret   FU v_vanillaIn (0 : Int32) (0 : Int32) hf H locs ls (lv_sub hl [2, 1, 0] rfl) hP hD hS

abbrev w_X5_mark (E : Ev) (p_this : Nat) (p_text : Nat) (p_told : Nat) (p_draft : Nat) (p_s : Nat) (p_images : Nat) (p_kept : Nat) (p_notes : Nat) (p_held : Nat) (p_soonest : Nat) (v_trace : Int64) (v_typed : Int32) (v_noted : Int32) (v_at : Int32) (v_sort : Int32) (v_start : Int32) (v_value : Int32) (v_vanillaIn : Int32) (f_told : Nat → Int32) (f_s : Nat → Int32) : va_W := [(p_this, .inr (5, [.long v_trace, .ref p_text, .int v_typed, .ref p_told, .ref p_draft, .ref p_s, .ref p_images, .ref p_kept, .ref p_notes, .int v_noted, .int v_at, .int v_sort, .int v_start, .int v_value, .int v_vanillaIn, .ref p_held, .ref p_soonest])), (p_told, .inl (E.2.1, 43, .inl f_told)), (p_s, .inl (E.2.1, 155, .inl f_s))]
set_option maxHeartbeats 4000000 in
set_option maxRecDepth 100000 in
theorem b_X5_mark_80 {p : Program} {l : Launch} {e : Env} {s : State} {m : MethodId} {args : Array Value} {below : List Frame} {meth : Method} {c : Code} {Q : State → Prop} {A : Nat → Prop} (E : Ev) (p_this : Nat) (p_text : Nat) (p_told : Nat) (p_draft : Nat) (p_s : Nat) (p_images : Nat) (p_kept : Nat) (p_notes : Nat) (p_held : Nat) (p_soonest : Nat) (v_typed : Int32) (v_noted : Int32) (v_at : Int32) (v_sort : Int32) (v_start : Int32) (v_value : Int32) (v_vanillaIn : Int32) (f_told : Nat → Int32) (f_s : Nat → Int32) (res : Int32 × Int64) (X : Cx p s m args meth c cX5_mark 6 RX5 (some .int)) (hK : KK E A s s.heap) (hA : ∀ q, s.heap.size ≤ q → A q) (hret : RetI p l e (RM 3) s m args below meth c Q E A cX5_mark .int (w_X5_mark E p_this p_text p_told p_draft p_s p_images p_kept p_notes p_held p_soonest res.2 v_typed v_noted v_at v_sort v_start v_value v_vanillaIn f_told f_s) res.1)  (v_trace : Int64) (x1 : Int32) (x2 : Int32) (k0 : Int64) (k1 : Int64) (hf : f_X5_mark_80 f_told f_s   v_trace x1 x2 k0 k1 = some res) : ∀ (H : Heap) (locs : List Loc) (ls : Array Slot), lv_has ls 6 [(0, .ref p_this), (1, .int x1), (2, .int x2)] → va_P E.1 classes (w_X5_mark E p_this p_text p_told p_draft p_s p_images p_kept p_notes p_held p_soonest v_trace v_typed v_noted v_at v_sort v_start v_value v_vanillaIn f_told f_s) H → va_D A (w_X5_mark E p_this p_text p_told p_draft p_s p_images p_kept p_notes p_held p_soonest v_trace v_typed v_noted v_at v_sort v_start v_value v_vanillaIn f_told f_s) → va_S A s.heap H locs → W p l e (RM 3) s m args below meth c H locs 0 0 Q (F0 m 80 ls [.long k0, .long k1, .ref p_this]) := by
  obtain ⟨hx, hb, hml, hown, hts, hrt, hlk⟩ := id X
  intro H locs ls hl hP hD hS
  unfold f_X5_mark_80 at hf
  refine lv_ladd hx hb dX5_mark_80 ?_
  refine pf_RX5_147 X hK hP hD hS 0 rfl rfl dX5_mark_81 (fun H locs hP hD hS => ?_)
  have hP : va_P E.1 classes (w_X5_mark E p_this p_text p_told p_draft p_s p_images p_kept p_notes p_held p_soonest (k1 + k0) v_typed v_noted v_at v_sort v_start v_value v_vanillaIn f_told f_s) H := hP
  have hD : va_D A (w_X5_mark E p_this p_text p_told p_draft p_s p_images p_kept p_notes p_held p_soonest (k1 + k0) v_typed v_noted v_at v_sort v_start v_value v_vanillaIn f_told f_s) := hD
  refine lv_aload_n hx hb dX5_mark_84 rfl (lv_at hl 0 rfl) ?_
  refine gf_RX5_13 X hK hP 0 rfl rfl dX5_mark_85 ?_
  refine lv_bipush (v := (13 : Int32)) hx hb dX5_mark_88 (by decide) ?_
  refine lv_iload_n hx hb dX5_mark_90 rfl (lv_at hl 2 rfl) ?_
  refine lv_iadd hx hb dX5_mark_91 ?_
  obtain ⟨g_1, hf⟩ := og hf
  refine iald X hK hP 1 rfl _ rfl g_1 dX5_mark_92 ?_
  refine lv_istore_n (lv' := [(3, .int (f_told ((13 : Int32) + x2).toNatClampNeg)), (0, .ref p_this), (1, .int x1), (2, .int x2)]) hx hb dX5_mark_93 rfl hl (by decide) rfl (fun ls hl => ?_)
  refine lv_iload_n hx hb dX5_mark_94 rfl (lv_at hl 0 rfl) ?_
  refine lv_aload_n hx hb dX5_mark_95 rfl (lv_at hl 1 rfl) ?_
  refine gf_RX5_19 X hK hP 0 rfl rfl dX5_mark_96 ?_
  refine lv_bipush (v := (6 : Int32)) hx hb dX5_mark_99 (by decide) ?_
  refine lv_iload_n hx hb dX5_mark_101 rfl (lv_at hl 3 rfl) ?_
  refine lv_iadd hx hb dX5_mark_102 ?_
  obtain ⟨g_2, hf⟩ := og hf
  refine iald X hK hP 2 rfl _ rfl g_2 dX5_mark_103 ?_
  refine lv_iadd hx hb dX5_mark_104 ?_
  refine lv_istore (lv' := [(4, .int ((f_told ((13 : Int32) + x2).toNatClampNeg) + (f_s ((6 : Int32) + x2).toNatClampNeg))), (3, .int (f_told ((13 : Int32) + x2).toNatClampNeg)), (0, .ref p_this), (1, .int x1), (2, .int x2)]) hx hb dX5_mark_105 hl (by decide) rfl (fun ls hl => ?_)
  refine lv_iload_n hx hb dX5_mark_107 rfl (lv_at hl 1 rfl) ?_
  refine lv_aload_n hx hb dX5_mark_108 rfl (lv_at hl 2 rfl) ?_
  refine gf_RX5_13 X hK hP 0 rfl rfl dX5_mark_109 ?_
  refine lv_bipush (v := (19 : Int32)) hx hb dX5_mark_112 (by decide) ?_
  refine lv_iload_n hx hb dX5_mark_114 rfl (lv_at hl 4 rfl) ?_
  refine lv_iadd hx hb dX5_mark_115 ?_
  obtain ⟨g_3, hf⟩ := og hf
  refine iald X hK hP 1 rfl _ rfl g_3 dX5_mark_116 ?_
  refine lv_isub hx hb dX5_mark_117 ?_
  refine lv_istore (lv' := [(5, .int ((f_told ((13 : Int32) + x2).toNatClampNeg) - (f_told ((19 : Int32) + x2).toNatClampNeg))), (4, .int ((f_told ((13 : Int32) + x2).toNatClampNeg) + (f_s ((6 : Int32) + x2).toNatClampNeg))), (3, .int (f_told ((13 : Int32) + x2).toNatClampNeg)), (0, .ref p_this), (1, .int x1), (2, .int x2)]) hx hb dX5_mark_118 hl (by decide) rfl (fun ls hl => ?_)
  refine lv_iload_n hx hb dX5_mark_120 rfl (lv_at hl 4 rfl) ?_
  refine lv_if_ne (tgt := 128) hx hb dX5_mark_121 (by decide) (fun c_4 => ?_) (fun c_4 => ?_)
  · replace hf := of c_4 hf
    refine lv_iload_n hx hb dX5_mark_128 rfl (lv_at hl 4 rfl) ?_
    refine lv_iconst (v := (1 : Int32)) hx hb dX5_mark_129 (by decide) ?_
    refine lv_icmp_ne (tgt := 138) hx hb dX5_mark_130 (by decide) (fun c_5 => ?_) (fun c_5 => ?_)
    · replace hf := of c_5 hf
      refine lv_iload_n hx hb dX5_mark_138 rfl (lv_at hl 4 rfl) ?_
      refine lv_iconst (v := (2 : Int32)) hx hb dX5_mark_139 (by decide) ?_
      refine lv_icmp_ne (tgt := 148) hx hb dX5_mark_140 (by decide) (fun c_6 => ?_) (fun c_6 => ?_)
      · replace hf := of c_6 hf
        refine lv_iload_n hx hb dX5_mark_148 rfl (lv_at hl 4 rfl) ?_
        refine lv_iconst (v := (3 : Int32)) hx hb dX5_mark_149 (by decide) ?_
        refine lv_icmp_ne (tgt := 160) hx hb dX5_mark_150 (by decide) (fun c_7 => ?_) (fun c_7 => ?_)
        · replace hf := of c_7 hf
          refine lv_iload_n hx hb dX5_mark_160 rfl (lv_at hl 4 rfl) ?_
          refine lv_iconst (v := (4 : Int32)) hx hb dX5_mark_161 (by decide) ?_
          refine lv_icmp_ne (tgt := 172) hx hb dX5_mark_162 (by decide) (fun c_8 => ?_) (fun c_8 => ?_)
          · replace hf := of c_8 hf
            refine lv_iload_n hx hb dX5_mark_172 rfl (lv_at hl 2 rfl) ?_
            refine lv_aload_n hx hb dX5_mark_173 rfl (lv_at hl 3 rfl) ?_
            refine gf_RX5_19 X hK hP 0 rfl rfl dX5_mark_174 ?_
            refine lv_bipush (v := (13 : Int32)) hx hb dX5_mark_177 (by decide) ?_
            refine iald X hK hP 2 rfl 13 (by decide) (by decide) dX5_mark_179 ?_
            refine lv_iadd hx hb dX5_mark_180 ?_
            obtain rfl := Option.some.inj hf
            exact hret H locs _ ls rfl hP hS dX5_mark_181
          · replace hf := ot c_8 hf
            refine lv_iload hx hb dX5_mark_165 (lv_at hl 0 rfl) ?_
            refine lv_iload_n hx hb dX5_mark_167 rfl (lv_at hl 5 rfl) ?_
            refine lv_iadd hx hb dX5_mark_168 ?_
            refine lv_goto (tgt := 181) hx hb dX5_mark_169 (by decide) ?_
            obtain rfl := Option.some.inj hf
            exact hret H locs _ ls rfl hP hS dX5_mark_181
        · replace hf := ot c_7 hf
          refine lv_iconst (v := (2 : Int32)) hx hb dX5_mark_153 (by decide) ?_
          refine lv_iload hx hb dX5_mark_154 (lv_at hl 1 rfl) ?_
          refine lv_imul hx hb dX5_mark_156 ?_
          refine lv_goto (tgt := 181) hx hb dX5_mark_157 (by decide) ?_
          obtain rfl := Option.some.inj hf
          exact hret H locs _ ls rfl hP hS dX5_mark_181
      · replace hf := ot c_6 hf
        refine lv_iload hx hb dX5_mark_143 (lv_at hl 0 rfl) ?_
        refine lv_goto (tgt := 181) hx hb dX5_mark_145 (by decide) ?_
        obtain rfl := Option.some.inj hf
        exact hret H locs _ ls rfl hP hS dX5_mark_181
    · replace hf := ot c_5 hf
      refine lv_iload hx hb dX5_mark_133 (lv_at hl 1 rfl) ?_
      refine lv_goto (tgt := 181) hx hb dX5_mark_135 (by decide) ?_
      obtain rfl := Option.some.inj hf
      exact hret H locs _ ls rfl hP hS dX5_mark_181
  · replace hf := ot c_4 hf
    refine lv_iload_n hx hb dX5_mark_124 rfl (lv_at hl 2 rfl) ?_
    refine lv_goto (tgt := 181) hx hb dX5_mark_125 (by decide) ?_
    obtain rfl := Option.some.inj hf
    exact hret H locs _ ls rfl hP hS dX5_mark_181

set_option maxHeartbeats 4000000 in
set_option maxRecDepth 100000 in
theorem m_X5_mark {l : Launch} (E : Ev) (p_this : Nat) (p_text : Nat) (p_told : Nat) (p_draft : Nat) (p_s : Nat) (p_images : Nat) (p_kept : Nat) (p_notes : Nat) (p_held : Nat) (p_soonest : Nat) (v_trace : Int64) (v_typed : Int32) (v_noted : Int32) (v_at : Int32) (v_sort : Int32) (v_start : Int32) (v_value : Int32) (v_vanillaIn : Int32) (f_told : Nat → Int32) (f_s : Nat → Int32) (x1 : Int32) (x2 : Int32) (res : Int32 × Int64) (hf : f_X5_mark  f_told f_s v_trace x1 x2 = some res) : MutI l E 3 yX5_mark cX5_mark 6 .int [.ref p_this, .int x1, .int x2] (w_X5_mark E p_this p_text p_told p_draft p_s p_images p_kept p_notes p_held p_soonest v_trace v_typed v_noted v_at v_sort v_start v_value v_vanillaIn f_told f_s) (w_X5_mark E p_this p_text p_told p_draft p_s p_images p_kept p_notes p_held p_soonest res.2 v_typed v_noted v_at v_sort v_start v_value v_vanillaIn f_told f_s) res.1 := by
  refine MutI.of (by decide) (Nat.le_of_ble_eq_true rfl) ?_
  intro p e s m args below meth c Q A X hK hA hret H locs ls hl hP hD hS
  obtain ⟨hx, hb, hml, hown, hts, hrt, hlk⟩ := id X
  have hl : lv_has ls 6 [(0, .ref p_this), (1, .int x1), (2, .int x2)] := hl
  unfold f_X5_mark at hf
  refine lv_iload_n hx hb dX5_mark_0 rfl (lv_at hl 1 rfl) ?_
  refine lv_iconst (v := (0 : Int32)) hx hb dX5_mark_1 (by decide) ?_
  refine lv_iconst (v := (5 : Int32)) hx hb dX5_mark_2 (by decide) ?_
  obtain ⟨u_1, hu_1, hf⟩ := ob hf
  refine pS X hK hA hP hS hl.1 (m_X5_in (l := l) E   x1 (0 : Int32) (5 : Int32) u_1 hu_1) kRX5_49 ⟨⟨(Nat.le_of_ble_eq_true rfl), (Nat.le_of_ble_eq_true rfl)⟩, Nat.zero_le _, Nat.zero_le _⟩ rfl rfl (Nat.le_of_ble_eq_true rfl) dX5_mark_3 (fun H locs hP hS => ?_)
  refine lv_if_eq (tgt := 17) hx hb dX5_mark_6 (by decide) (fun c_2 => ?_) (fun c_2 => ?_)
  · replace hf := ot c_2 hf
    refine lv_ldc hx hb hown (hts _ q704) dX5_mark_17 ?_
    obtain rfl := Option.some.inj hf
    exact hret H locs _ ls rfl hP hS dX5_mark_19
  · replace hf := of c_2 hf
    refine lv_aload_n hx hb dX5_mark_9 rfl (lv_at hl 0 rfl) ?_
    refine lv_iload_n hx hb dX5_mark_10 rfl (lv_at hl 2 rfl) ?_
    obtain ⟨u_3, hu_3, hf⟩ := ob hf
    refine pV X hK hA hP hS hl.1 (m_X5_isDough (l := l) E p_this p_text p_told p_draft p_s p_images p_kept p_notes p_held p_soonest v_trace v_typed v_noted v_at v_sort v_start v_value v_vanillaIn f_told x2 u_3 hu_3) kRX5_111 [0, 1] rfl rfl rfl rfl ⟨⟨(Nat.le_of_ble_eq_true rfl), (Nat.le_of_ble_eq_true rfl)⟩, Nat.zero_le _, Nat.zero_le _⟩ rfl rfl (Nat.le_of_ble_eq_true rfl) dX5_mark_11 (fun H locs hP hS => ?_)
    refine lv_if_ne (tgt := 20) hx hb dX5_mark_14 (by decide) (fun c_4 => ?_) (fun c_4 => ?_)
    · replace hf := of c_4 hf
      refine lv_aload_n hx hb dX5_mark_20 rfl (lv_at hl 0 rfl) ?_
      refine lv_dup hx hb dX5_mark_21 rfl ?_
      refine gf_RX5_147 X hK hP 0 rfl rfl dX5_mark_22 ?_
      refine lv_iload_n hx hb dX5_mark_25 rfl (lv_at hl 1 rfl) ?_
      refine lv_if_ne (tgt := 33) hx hb dX5_mark_26 (by decide) (fun c_5 => ?_) (fun c_5 => ?_)
      · replace hf := of c_5 hf
        refine lv_iload_n hx hb dX5_mark_33 rfl (lv_at hl 1 rfl) ?_
        refine lv_iconst (v := (1 : Int32)) hx hb dX5_mark_34 (by decide) ?_
        refine lv_icmp_ne (tgt := 44) hx hb dX5_mark_35 (by decide) (fun c_6 => ?_) (fun c_6 => ?_)
        · replace hf := of c_6 hf
          refine lv_iload_n hx hb dX5_mark_44 rfl (lv_at hl 1 rfl) ?_
          refine lv_iconst (v := (2 : Int32)) hx hb dX5_mark_45 (by decide) ?_
          refine lv_icmp_ne (tgt := 55) hx hb dX5_mark_46 (by decide) (fun c_7 => ?_) (fun c_7 => ?_)
          · replace hf := of c_7 hf
            refine lv_iload_n hx hb dX5_mark_55 rfl (lv_at hl 1 rfl) ?_
            refine lv_iconst (v := (3 : Int32)) hx hb dX5_mark_56 (by decide) ?_
            refine lv_icmp_ne (tgt := 66) hx hb dX5_mark_57 (by decide) (fun c_8 => ?_) (fun c_8 => ?_)
            · replace hf := of c_8 hf
              refine lv_iload_n hx hb dX5_mark_66 rfl (lv_at hl 1 rfl) ?_
              refine lv_iconst (v := (4 : Int32)) hx hb dX5_mark_67 (by decide) ?_
              refine lv_icmp_ne (tgt := 77) hx hb dX5_mark_68 (by decide) (fun c_9 => ?_) (fun c_9 => ?_)
              · replace hf := of c_9 hf
                refine lv_ldc2 (v := LC_100001) hx hb hown (hts _ q840) dX5_mark_77 ?_
                exact b_X5_mark_80 E p_this p_text p_told p_draft p_s p_images p_kept p_notes p_held p_soonest v_typed v_noted v_at v_sort v_start v_value v_vanillaIn f_told f_s res X hK hA hret   v_trace x1 x2 LC_100001 v_trace hf H locs ls (lv_sub hl [0, 1, 2] rfl) hP hD hS
              · replace hf := ot c_9 hf
                refine lv_ldc2 (v := LC_10101) hx hb hown (hts _ q839) dX5_mark_71 ?_
                refine lv_goto (tgt := 80) hx hb dX5_mark_74 (by decide) ?_
                exact b_X5_mark_80 E p_this p_text p_told p_draft p_s p_images p_kept p_notes p_held p_soonest v_typed v_noted v_at v_sort v_start v_value v_vanillaIn f_told f_s res X hK hA hret   v_trace x1 x2 LC_10101 v_trace hf H locs ls (lv_sub hl [0, 1, 2] rfl) hP hD hS
            · replace hf := ot c_8 hf
              refine lv_ldc2 (v := LC_1011) hx hb hown (hts _ q838) dX5_mark_60 ?_
              refine lv_goto (tgt := 80) hx hb dX5_mark_63 (by decide) ?_
              exact b_X5_mark_80 E p_this p_text p_told p_draft p_s p_images p_kept p_notes p_held p_soonest v_typed v_noted v_at v_sort v_start v_value v_vanillaIn f_told f_s res X hK hA hret   v_trace x1 x2 LC_1011 v_trace hf H locs ls (lv_sub hl [0, 1, 2] rfl) hP hD hS
          · replace hf := ot c_7 hf
            refine lv_ldc2 (v := LC_101) hx hb hown (hts _ q837) dX5_mark_49 ?_
            refine lv_goto (tgt := 80) hx hb dX5_mark_52 (by decide) ?_
            exact b_X5_mark_80 E p_this p_text p_told p_draft p_s p_images p_kept p_notes p_held p_soonest v_typed v_noted v_at v_sort v_start v_value v_vanillaIn f_told f_s res X hK hA hret   v_trace x1 x2 LC_101 v_trace hf H locs ls (lv_sub hl [0, 1, 2] rfl) hP hD hS
        · replace hf := ot c_6 hf
          refine lv_ldc2 (v := LC_11) hx hb hown (hts _ q836) dX5_mark_38 ?_
          refine lv_goto (tgt := 80) hx hb dX5_mark_41 (by decide) ?_
          exact b_X5_mark_80 E p_this p_text p_told p_draft p_s p_images p_kept p_notes p_held p_soonest v_typed v_noted v_at v_sort v_start v_value v_vanillaIn f_told f_s res X hK hA hret   v_trace x1 x2 LC_11 v_trace hf H locs ls (lv_sub hl [0, 1, 2] rfl) hP hD hS
      · replace hf := ot c_5 hf
        refine lv_lconst (v := (1 : Int64)) hx hb dX5_mark_29 (by decide) ?_
        refine lv_goto (tgt := 80) hx hb dX5_mark_30 (by decide) ?_
        exact b_X5_mark_80 E p_this p_text p_told p_draft p_s p_images p_kept p_notes p_held p_soonest v_typed v_noted v_at v_sort v_start v_value v_vanillaIn f_told f_s res X hK hA hret   v_trace x1 x2 (1 : Int64) v_trace hf H locs ls (lv_sub hl [0, 1, 2] rfl) hP hD hS
    · replace hf := ot c_4 hf
      refine lv_ldc hx hb hown (hts _ q704) dX5_mark_17 ?_
      obtain rfl := Option.some.inj hf
      exact hret H locs _ ls rfl hP hS dX5_mark_19

abbrev w_X5_keep (E : Ev) (p_this : Nat) (p_text : Nat) (p_told : Nat) (p_draft : Nat) (p_s : Nat) (p_images : Nat) (p_kept : Nat) (p_notes : Nat) (p_held : Nat) (p_soonest : Nat) (v_trace : Int64) (v_typed : Int32) (v_noted : Int32) (v_at : Int32) (v_sort : Int32) (v_start : Int32) (v_value : Int32) (v_vanillaIn : Int32) (f_s : Nat → Int32) (f_images : Nat → Int32) (f_kept : Nat → Int32) : va_W := [(p_this, .inr (5, [.long v_trace, .ref p_text, .int v_typed, .ref p_told, .ref p_draft, .ref p_s, .ref p_images, .ref p_kept, .ref p_notes, .int v_noted, .int v_at, .int v_sort, .int v_start, .int v_value, .int v_vanillaIn, .ref p_held, .ref p_soonest])), (p_s, .inl (E.2.1, 155, .inl f_s)), (p_images, .inl (E.2.1, 310, .inl f_images)), (p_kept, .inl (E.2.2.1, 2, .inl f_kept))]
set_option maxHeartbeats 4000000 in
set_option maxRecDepth 100000 in
theorem b_X5_keep_13 {p : Program} {l : Launch} {e : Env} {s : State} {m : MethodId} {args : Array Value} {below : List Frame} {meth : Method} {c : Code} {Q : State → Prop} {A : Nat → Prop} (E : Ev) (p_this : Nat) (p_text : Nat) (p_told : Nat) (p_draft : Nat) (p_s : Nat) (p_images : Nat) (p_kept : Nat) (p_notes : Nat) (p_held : Nat) (p_soonest : Nat) (v_trace : Int64) (v_typed : Int32) (v_noted : Int32) (v_at : Int32) (v_sort : Int32) (v_start : Int32) (v_value : Int32) (v_vanillaIn : Int32) (f_s : Nat → Int32) (res : Int32 × (Nat → Int32) × (Nat → Int32)) (X : Cx p s m args meth c cX5_keep 3 RX5 (some .int)) (hK : KK E A s s.heap) (hA : ∀ q, s.heap.size ≤ q → A q) (hret : RetI p l e (RM 2) s m args below meth c Q E A cX5_keep .int (w_X5_keep E p_this p_text p_told p_draft p_s p_images p_kept p_notes p_held p_soonest v_trace v_typed v_noted v_at v_sort v_start v_value v_vanillaIn f_s res.2.1 res.2.2) res.1)  : ∀ (n : Nat) (f_images : Nat → Int32) (f_kept : Nat → Int32) (x1 : Int32) (x2 : Int32), f_X5_keep_13 f_s   n f_images f_kept x1 x2 = some res → ∀ (H : Heap) (locs : List Loc) (ls : Array Slot), lv_has ls 3 [(0, .ref p_this), (1, .int x1), (2, .int x2)] → va_P E.1 classes (w_X5_keep E p_this p_text p_told p_draft p_s p_images p_kept p_notes p_held p_soonest v_trace v_typed v_noted v_at v_sort v_start v_value v_vanillaIn f_s f_images f_kept) H → va_D A (w_X5_keep E p_this p_text p_told p_draft p_s p_images p_kept p_notes p_held p_soonest v_trace v_typed v_noted v_at v_sort v_start v_value v_vanillaIn f_s f_images f_kept) → va_S A s.heap H locs → W p l e (RM 2) s m args below meth c H locs 0 0 Q (F0 m 13 ls []) := by
  obtain ⟨hx, hb, hml, hown, hts, hrt, hlk⟩ := id X
  intro n
  induction n with
  | zero => intro f_images f_kept x1 x2 hf; exact absurd hf (by simp [f_X5_keep_13])
  | succ n ih =>
    intro f_images f_kept x1 x2 hf H locs ls hl hP hD hS
    unfold f_X5_keep_13 at hf
    refine lv_iload_n hx hb dX5_keep_13 rfl (lv_at hl 2 rfl) ?_
    refine lv_sipush (v := (155 : Int32)) hx hb dX5_keep_14 (by decide) ?_
    refine lv_icmp_ge (tgt := 44) hx hb dX5_keep_17 (by decide) (fun c_1 => ?_) (fun c_1 => ?_)
    · replace hf := ot c_1 hf
      refine lv_aload_n hx hb dX5_keep_44 rfl (lv_at hl 0 rfl) ?_
      refine gf_RX5_25 X hK hP 0 rfl rfl dX5_keep_45 ?_
      refine lv_iload_n hx hb dX5_keep_48 rfl (lv_at hl 1 rfl) ?_
      refine lv_iconst (v := (1 : Int32)) hx hb dX5_keep_49 (by decide) ?_
      obtain ⟨g_2, hf⟩ := og hf
      refine zast X hK hP hD hS 3 rfl _ rfl g_2 dX5_keep_50 (fun H locs hP hD hS => ?_)
      have hP : va_P E.1 classes (w_X5_keep E p_this p_text p_told p_draft p_s p_images p_kept p_notes p_held p_soonest v_trace v_typed v_noted v_at v_sort v_start v_value v_vanillaIn f_s f_images (upd f_kept x1.toNatClampNeg (vp_nar .boolean (1 : Int32)))) H := hP
      have hD : va_D A (w_X5_keep E p_this p_text p_told p_draft p_s p_images p_kept p_notes p_held p_soonest v_trace v_typed v_noted v_at v_sort v_start v_value v_vanillaIn f_s f_images (upd f_kept x1.toNatClampNeg (vp_nar .boolean (1 : Int32)))) := hD
      refine lv_aload_n hx hb dX5_keep_51 rfl (lv_at hl 0 rfl) ?_
      refine gf_RX5_19 X hK hP 0 rfl rfl dX5_keep_52 ?_
      refine lv_bipush (v := (13 : Int32)) hx hb dX5_keep_55 (by decide) ?_
      refine iald X hK hP 1 rfl 13 (by decide) (by decide) dX5_keep_57 ?_
      obtain rfl := Option.some.inj hf
      exact hret H locs _ ls rfl hP hS dX5_keep_58
    · replace hf := of c_1 hf
      refine lv_aload_n hx hb dX5_keep_20 rfl (lv_at hl 0 rfl) ?_
      refine gf_RX5_22 X hK hP 0 rfl rfl dX5_keep_21 ?_
      refine lv_sipush (v := (155 : Int32)) hx hb dX5_keep_24 (by decide) ?_
      refine lv_iload_n hx hb dX5_keep_27 rfl (lv_at hl 1 rfl) ?_
      refine lv_imul hx hb dX5_keep_28 ?_
      refine lv_iload_n hx hb dX5_keep_29 rfl (lv_at hl 2 rfl) ?_
      refine lv_iadd hx hb dX5_keep_30 ?_
      refine lv_aload_n hx hb dX5_keep_31 rfl (lv_at hl 0 rfl) ?_
      refine gf_RX5_19 X hK hP 0 rfl rfl dX5_keep_32 ?_
      refine lv_iload_n hx hb dX5_keep_35 rfl (lv_at hl 2 rfl) ?_
      obtain ⟨g_4, hf⟩ := og hf
      refine iald X hK hP 1 rfl _ rfl g_4 dX5_keep_36 ?_
      obtain ⟨g_5, hf⟩ := og hf
      refine iast X hK hP hD hS 2 rfl _ rfl g_5 dX5_keep_37 (fun H locs hP hD hS => ?_)
      have hP : va_P E.1 classes (w_X5_keep E p_this p_text p_told p_draft p_s p_images p_kept p_notes p_held p_soonest v_trace v_typed v_noted v_at v_sort v_start v_value v_vanillaIn f_s (upd f_images (((155 : Int32) * x1) + x2).toNatClampNeg (f_s x2.toNatClampNeg)) f_kept) H := hP
      have hD : va_D A (w_X5_keep E p_this p_text p_told p_draft p_s p_images p_kept p_notes p_held p_soonest v_trace v_typed v_noted v_at v_sort v_start v_value v_vanillaIn f_s (upd f_images (((155 : Int32) * x1) + x2).toNatClampNeg (f_s x2.toNatClampNeg)) f_kept) := hD
      refine lv_iinc (v := (x2 + (1 : Int32))) (lv' := [(2, .int (x2 + (1 : Int32))), (0, .ref p_this), (1, .int x1)]) hx hb dX5_keep_38 hl (k := 2) rfl rfl (by decide) rfl (fun ls hl => ?_)
      refine lv_goto (tgt := 13) hx hb dX5_keep_41 (by decide) ?_
      exact ih (upd f_images (((155 : Int32) * x1) + x2).toNatClampNeg (f_s x2.toNatClampNeg)) f_kept x1 (x2 + (1 : Int32)) hf H locs ls (lv_sub hl [1, 2, 0] rfl) hP hD hS

set_option maxHeartbeats 4000000 in
set_option maxRecDepth 100000 in
theorem m_X5_keep {l : Launch} (E : Ev) (p_this : Nat) (p_text : Nat) (p_told : Nat) (p_draft : Nat) (p_s : Nat) (p_images : Nat) (p_kept : Nat) (p_notes : Nat) (p_held : Nat) (p_soonest : Nat) (v_trace : Int64) (v_typed : Int32) (v_noted : Int32) (v_at : Int32) (v_sort : Int32) (v_start : Int32) (v_value : Int32) (v_vanillaIn : Int32) (f_s : Nat → Int32) (f_images : Nat → Int32) (f_kept : Nat → Int32) (x1 : Int32) (res : Int32 × (Nat → Int32) × (Nat → Int32)) (hf : f_X5_keep  f_s f_images f_kept x1 = some res) : MutI l E 2 yX5_keep cX5_keep 3 .int [.ref p_this, .int x1] (w_X5_keep E p_this p_text p_told p_draft p_s p_images p_kept p_notes p_held p_soonest v_trace v_typed v_noted v_at v_sort v_start v_value v_vanillaIn f_s f_images f_kept) (w_X5_keep E p_this p_text p_told p_draft p_s p_images p_kept p_notes p_held p_soonest v_trace v_typed v_noted v_at v_sort v_start v_value v_vanillaIn f_s res.2.1 res.2.2) res.1 := by
  refine MutI.of (by decide) (Nat.le_of_ble_eq_true rfl) ?_
  intro p e s m args below meth c Q A X hK hA hret H locs ls hl hP hD hS
  obtain ⟨hx, hb, hml, hown, hts, hrt, hlk⟩ := id X
  have hl : lv_has ls 3 [(0, .ref p_this), (1, .int x1)] := hl
  unfold f_X5_keep at hf
  refine lv_iload_n hx hb dX5_keep_0 rfl (lv_at hl 1 rfl) ?_
  refine lv_iconst (v := (0 : Int32)) hx hb dX5_keep_1 (by decide) ?_
  refine lv_iconst (v := (1 : Int32)) hx hb dX5_keep_2 (by decide) ?_
  obtain ⟨u_1, hu_1, hf⟩ := ob hf
  refine pS X hK hA hP hS hl.1 (m_X5_in (l := l) E   x1 (0 : Int32) (1 : Int32) u_1 hu_1) kRX5_49 ⟨⟨(Nat.le_of_ble_eq_true rfl), (Nat.le_of_ble_eq_true rfl)⟩, Nat.zero_le _, Nat.zero_le _⟩ rfl rfl (Nat.le_of_ble_eq_true rfl) dX5_keep_3 (fun H locs hP hS => ?_)
  refine lv_if_ne (tgt := 11) hx hb dX5_keep_6 (by decide) (fun c_2 => ?_) (fun c_2 => ?_)
  · replace hf := of c_2 hf
    refine lv_iconst (v := (0 : Int32)) hx hb dX5_keep_11 (by decide) ?_
    refine lv_istore_n (lv' := [(2, .int (0 : Int32)), (0, .ref p_this), (1, .int x1)]) hx hb dX5_keep_12 rfl hl (by decide) rfl (fun ls hl => ?_)
    exact b_X5_keep_13 E p_this p_text p_told p_draft p_s p_images p_kept p_notes p_held p_soonest v_trace v_typed v_noted v_at v_sort v_start v_value v_vanillaIn f_s res X hK hA hret   FU f_images f_kept x1 (0 : Int32) hf H locs ls (lv_sub hl [1, 2, 0] rfl) hP hD hS
  · replace hf := ot c_2 hf
    refine lv_iconst (v := (-1 : Int32)) hx hb dX5_keep_9 (by decide) ?_
    obtain rfl := Option.some.inj hf
    exact hret H locs _ ls rfl hP hS dX5_keep_10

abbrev w_X5_back (E : Ev) (p_this : Nat) (p_text : Nat) (p_told : Nat) (p_draft : Nat) (p_s : Nat) (p_images : Nat) (p_kept : Nat) (p_notes : Nat) (p_held : Nat) (p_soonest : Nat) (v_trace : Int64) (v_typed : Int32) (v_noted : Int32) (v_at : Int32) (v_sort : Int32) (v_start : Int32) (v_value : Int32) (v_vanillaIn : Int32) (f_kept : Nat → Int32) (f_images : Nat → Int32) (f_s : Nat → Int32) : va_W := [(p_this, .inr (5, [.long v_trace, .ref p_text, .int v_typed, .ref p_told, .ref p_draft, .ref p_s, .ref p_images, .ref p_kept, .ref p_notes, .int v_noted, .int v_at, .int v_sort, .int v_start, .int v_value, .int v_vanillaIn, .ref p_held, .ref p_soonest])), (p_kept, .inl (E.2.2.1, 2, .inl f_kept)), (p_images, .inl (E.2.1, 310, .inl f_images)), (p_s, .inl (E.2.1, 155, .inl f_s))]
set_option maxHeartbeats 4000000 in
set_option maxRecDepth 100000 in
theorem b_X5_back_25 {p : Program} {l : Launch} {e : Env} {s : State} {m : MethodId} {args : Array Value} {below : List Frame} {meth : Method} {c : Code} {Q : State → Prop} {A : Nat → Prop} (E : Ev) (p_this : Nat) (p_text : Nat) (p_told : Nat) (p_draft : Nat) (p_s : Nat) (p_images : Nat) (p_kept : Nat) (p_notes : Nat) (p_held : Nat) (p_soonest : Nat) (v_trace : Int64) (v_typed : Int32) (v_noted : Int32) (v_at : Int32) (v_sort : Int32) (v_start : Int32) (v_value : Int32) (v_vanillaIn : Int32) (f_kept : Nat → Int32) (f_images : Nat → Int32) (res : Int32 × (Nat → Int32)) (X : Cx p s m args meth c cX5_back 3 RX5 (some .int)) (hK : KK E A s s.heap) (hA : ∀ q, s.heap.size ≤ q → A q) (hret : RetI p l e (RM 2) s m args below meth c Q E A cX5_back .int (w_X5_back E p_this p_text p_told p_draft p_s p_images p_kept p_notes p_held p_soonest v_trace v_typed v_noted v_at v_sort v_start v_value v_vanillaIn f_kept f_images res.2) res.1)  : ∀ (n : Nat) (f_s : Nat → Int32) (x1 : Int32) (x2 : Int32), f_X5_back_25 f_kept f_images   n f_s x1 x2 = some res → ∀ (H : Heap) (locs : List Loc) (ls : Array Slot), lv_has ls 3 [(0, .ref p_this), (1, .int x1), (2, .int x2)] → va_P E.1 classes (w_X5_back E p_this p_text p_told p_draft p_s p_images p_kept p_notes p_held p_soonest v_trace v_typed v_noted v_at v_sort v_start v_value v_vanillaIn f_kept f_images f_s) H → va_D A (w_X5_back E p_this p_text p_told p_draft p_s p_images p_kept p_notes p_held p_soonest v_trace v_typed v_noted v_at v_sort v_start v_value v_vanillaIn f_kept f_images f_s) → va_S A s.heap H locs → W p l e (RM 2) s m args below meth c H locs 0 0 Q (F0 m 25 ls []) := by
  obtain ⟨hx, hb, hml, hown, hts, hrt, hlk⟩ := id X
  intro n
  induction n with
  | zero => intro f_s x1 x2 hf; exact absurd hf (by simp [f_X5_back_25])
  | succ n ih =>
    intro f_s x1 x2 hf H locs ls hl hP hD hS
    unfold f_X5_back_25 at hf
    refine lv_iload_n hx hb dX5_back_25 rfl (lv_at hl 2 rfl) ?_
    refine lv_sipush (v := (155 : Int32)) hx hb dX5_back_26 (by decide) ?_
    refine lv_icmp_ge (tgt := 56) hx hb dX5_back_29 (by decide) (fun c_1 => ?_) (fun c_1 => ?_)
    · replace hf := ot c_1 hf
      refine lv_aload_n hx hb dX5_back_56 rfl (lv_at hl 0 rfl) ?_
      refine gf_RX5_19 X hK hP 0 rfl rfl dX5_back_57 ?_
      refine lv_bipush (v := (13 : Int32)) hx hb dX5_back_60 (by decide) ?_
      refine iald X hK hP 3 rfl 13 (by decide) (by decide) dX5_back_62 ?_
      obtain rfl := Option.some.inj hf
      exact hret H locs _ ls rfl hP hS dX5_back_63
    · replace hf := of c_1 hf
      refine lv_aload_n hx hb dX5_back_32 rfl (lv_at hl 0 rfl) ?_
      refine gf_RX5_19 X hK hP 0 rfl rfl dX5_back_33 ?_
      refine lv_iload_n hx hb dX5_back_36 rfl (lv_at hl 2 rfl) ?_
      refine lv_aload_n hx hb dX5_back_37 rfl (lv_at hl 0 rfl) ?_
      refine gf_RX5_22 X hK hP 0 rfl rfl dX5_back_38 ?_
      refine lv_sipush (v := (155 : Int32)) hx hb dX5_back_41 (by decide) ?_
      refine lv_iload_n hx hb dX5_back_44 rfl (lv_at hl 1 rfl) ?_
      refine lv_imul hx hb dX5_back_45 ?_
      refine lv_iload_n hx hb dX5_back_46 rfl (lv_at hl 2 rfl) ?_
      refine lv_iadd hx hb dX5_back_47 ?_
      obtain ⟨g_3, hf⟩ := og hf
      refine iald X hK hP 2 rfl _ rfl g_3 dX5_back_48 ?_
      obtain ⟨g_4, hf⟩ := og hf
      refine iast X hK hP hD hS 3 rfl _ rfl g_4 dX5_back_49 (fun H locs hP hD hS => ?_)
      have hP : va_P E.1 classes (w_X5_back E p_this p_text p_told p_draft p_s p_images p_kept p_notes p_held p_soonest v_trace v_typed v_noted v_at v_sort v_start v_value v_vanillaIn f_kept f_images (upd f_s x2.toNatClampNeg (f_images (((155 : Int32) * x1) + x2).toNatClampNeg))) H := hP
      have hD : va_D A (w_X5_back E p_this p_text p_told p_draft p_s p_images p_kept p_notes p_held p_soonest v_trace v_typed v_noted v_at v_sort v_start v_value v_vanillaIn f_kept f_images (upd f_s x2.toNatClampNeg (f_images (((155 : Int32) * x1) + x2).toNatClampNeg))) := hD
      refine lv_iinc (v := (x2 + (1 : Int32))) (lv' := [(2, .int (x2 + (1 : Int32))), (0, .ref p_this), (1, .int x1)]) hx hb dX5_back_50 hl (k := 2) rfl rfl (by decide) rfl (fun ls hl => ?_)
      refine lv_goto (tgt := 25) hx hb dX5_back_53 (by decide) ?_
      exact ih (upd f_s x2.toNatClampNeg (f_images (((155 : Int32) * x1) + x2).toNatClampNeg)) x1 (x2 + (1 : Int32)) hf H locs ls (lv_sub hl [1, 2, 0] rfl) hP hD hS

set_option maxHeartbeats 4000000 in
set_option maxRecDepth 100000 in
theorem m_X5_back {l : Launch} (E : Ev) (p_this : Nat) (p_text : Nat) (p_told : Nat) (p_draft : Nat) (p_s : Nat) (p_images : Nat) (p_kept : Nat) (p_notes : Nat) (p_held : Nat) (p_soonest : Nat) (v_trace : Int64) (v_typed : Int32) (v_noted : Int32) (v_at : Int32) (v_sort : Int32) (v_start : Int32) (v_value : Int32) (v_vanillaIn : Int32) (f_kept : Nat → Int32) (f_images : Nat → Int32) (f_s : Nat → Int32) (x1 : Int32) (res : Int32 × (Nat → Int32)) (hf : f_X5_back  f_kept f_images f_s x1 = some res) : MutI l E 2 yX5_back cX5_back 3 .int [.ref p_this, .int x1] (w_X5_back E p_this p_text p_told p_draft p_s p_images p_kept p_notes p_held p_soonest v_trace v_typed v_noted v_at v_sort v_start v_value v_vanillaIn f_kept f_images f_s) (w_X5_back E p_this p_text p_told p_draft p_s p_images p_kept p_notes p_held p_soonest v_trace v_typed v_noted v_at v_sort v_start v_value v_vanillaIn f_kept f_images res.2) res.1 := by
  refine MutI.of (by decide) (Nat.le_of_ble_eq_true rfl) ?_
  intro p e s m args below meth c Q A X hK hA hret H locs ls hl hP hD hS
  obtain ⟨hx, hb, hml, hown, hts, hrt, hlk⟩ := id X
  have hl : lv_has ls 3 [(0, .ref p_this), (1, .int x1)] := hl
  unfold f_X5_back at hf
  refine lv_iload_n hx hb dX5_back_0 rfl (lv_at hl 1 rfl) ?_
  refine lv_iconst (v := (0 : Int32)) hx hb dX5_back_1 (by decide) ?_
  refine lv_iconst (v := (1 : Int32)) hx hb dX5_back_2 (by decide) ?_
  obtain ⟨u_1, hu_1, hf⟩ := ob hf
  refine pS X hK hA hP hS hl.1 (m_X5_in (l := l) E   x1 (0 : Int32) (1 : Int32) u_1 hu_1) kRX5_49 ⟨⟨(Nat.le_of_ble_eq_true rfl), (Nat.le_of_ble_eq_true rfl)⟩, Nat.zero_le _, Nat.zero_le _⟩ rfl rfl (Nat.le_of_ble_eq_true rfl) dX5_back_3 (fun H locs hP hS => ?_)
  refine lv_if_ne (tgt := 11) hx hb dX5_back_6 (by decide) (fun c_2 => ?_) (fun c_2 => ?_)
  · replace hf := of c_2 hf
    refine lv_aload_n hx hb dX5_back_11 rfl (lv_at hl 0 rfl) ?_
    refine gf_RX5_25 X hK hP 0 rfl rfl dX5_back_12 ?_
    refine lv_iload_n hx hb dX5_back_15 rfl (lv_at hl 1 rfl) ?_
    obtain ⟨g_3, hf⟩ := og hf
    refine zald X hK hP 1 rfl _ rfl g_3 dX5_back_16 ?_
    refine lv_if_ne (tgt := 23) hx hb dX5_back_17 (by decide) (fun c_4 => ?_) (fun c_4 => ?_)
    · replace hf := of c_4 hf
      refine lv_iconst (v := (0 : Int32)) hx hb dX5_back_23 (by decide) ?_
      refine lv_istore_n (lv' := [(2, .int (0 : Int32)), (0, .ref p_this), (1, .int x1)]) hx hb dX5_back_24 rfl hl (by decide) rfl (fun ls hl => ?_)
      exact b_X5_back_25 E p_this p_text p_told p_draft p_s p_images p_kept p_notes p_held p_soonest v_trace v_typed v_noted v_at v_sort v_start v_value v_vanillaIn f_kept f_images res X hK hA hret   FU f_s x1 (0 : Int32) hf H locs ls (lv_sub hl [1, 2, 0] rfl) hP hD hS
    · replace hf := ot c_4 hf
      refine lv_bipush (v := (-2 : Int32)) hx hb dX5_back_20 (by decide) ?_
      obtain rfl := Option.some.inj hf
      exact hret H locs _ ls rfl hP hS dX5_back_22
  · replace hf := ot c_2 hf
    refine lv_iconst (v := (-1 : Int32)) hx hb dX5_back_9 (by decide) ?_
    obtain rfl := Option.some.inj hf
    exact hret H locs _ ls rfl hP hS dX5_back_10

abbrev w_X5_count (E : Ev) (p_this : Nat) (p_text : Nat) (p_told : Nat) (p_draft : Nat) (p_s : Nat) (p_images : Nat) (p_kept : Nat) (p_notes : Nat) (p_held : Nat) (p_soonest : Nat) (v_trace : Int64) (v_typed : Int32) (v_noted : Int32) (v_at : Int32) (v_sort : Int32) (v_start : Int32) (v_value : Int32) (v_vanillaIn : Int32) (f_s : Nat → Int32) (f_told : Nat → Int32) : va_W := [(p_this, .inr (5, [.long v_trace, .ref p_text, .int v_typed, .ref p_told, .ref p_draft, .ref p_s, .ref p_images, .ref p_kept, .ref p_notes, .int v_noted, .int v_at, .int v_sort, .int v_start, .int v_value, .int v_vanillaIn, .ref p_held, .ref p_soonest])), (p_s, .inl (E.2.1, 155, .inl f_s)), (p_told, .inl (E.2.1, 43, .inl f_told))]
set_option maxHeartbeats 4000000 in
set_option maxRecDepth 100000 in
theorem m_X5_count {l : Launch} (E : Ev) (p_this : Nat) (p_text : Nat) (p_told : Nat) (p_draft : Nat) (p_s : Nat) (p_images : Nat) (p_kept : Nat) (p_notes : Nat) (p_held : Nat) (p_soonest : Nat) (v_trace : Int64) (v_typed : Int32) (v_noted : Int32) (v_at : Int32) (v_sort : Int32) (v_start : Int32) (v_value : Int32) (v_vanillaIn : Int32) (f_s : Nat → Int32) (f_told : Nat → Int32) (x1 : Int32) (res : Int32) (hf : f_X5_count  v_typed v_noted f_s f_told x1 = some res) : PureI l E 1 yX5_count cX5_count 2 .int [.ref p_this, .int x1] (w_X5_count E p_this p_text p_told p_draft p_s p_images p_kept p_notes p_held p_soonest v_trace v_typed v_noted v_at v_sort v_start v_value v_vanillaIn f_s f_told) res := by
  refine PureI.of (by decide) (Nat.le_of_ble_eq_true rfl) ?_
  intro p e s m args below meth c Q A X hK hA hret H locs ls hl hP hS
  obtain ⟨hx, hb, hml, hown, hts, hrt, hlk⟩ := id X
  have hl : lv_has ls 2 [(0, .ref p_this), (1, .int x1)] := hl
  unfold f_X5_count at hf
  refine lv_iload_n hx hb dX5_count_0 rfl (lv_at hl 1 rfl) ?_
  by_cases c_1 : x1 = 0
  · replace hf := ot c_1 hf
    refine lv_tableIn (off := 35) (tgt := 36) hx hb dX5_count_1 (by rw [c_1]; decide) (by rw [c_1]; decide) (by rw [c_1]; rfl) (by decide) ?_
    refine lv_aload_n hx hb dX5_count_36 rfl (lv_at hl 0 rfl) ?_
    refine gf_RX5_13 X hK hP 0 rfl rfl dX5_count_37 ?_
    refine lv_iconst (v := (0 : Int32)) hx hb dX5_count_40 (by decide) ?_
    refine iald X hK hP 2 rfl 0 (by decide) (by decide) dX5_count_41 ?_
    obtain rfl := Option.some.inj hf
    exact hret H locs _ ls rfl hP hS dX5_count_42
  · replace hf := of c_1 hf
    by_cases c_3 : x1 = 1
    · replace hf := ot c_3 hf
      refine lv_tableIn (off := 42) (tgt := 43) hx hb dX5_count_1 (by rw [c_3]; decide) (by rw [c_3]; decide) (by rw [c_3]; rfl) (by decide) ?_
      refine lv_aload_n hx hb dX5_count_43 rfl (lv_at hl 0 rfl) ?_
      refine gf_RX5_13 X hK hP 0 rfl rfl dX5_count_44 ?_
      refine lv_iconst (v := (1 : Int32)) hx hb dX5_count_47 (by decide) ?_
      refine iald X hK hP 2 rfl 1 (by decide) (by decide) dX5_count_48 ?_
      obtain rfl := Option.some.inj hf
      exact hret H locs _ ls rfl hP hS dX5_count_49
    · replace hf := of c_3 hf
      by_cases c_5 : x1 = 2
      · replace hf := ot c_5 hf
        refine lv_tableIn (off := 49) (tgt := 50) hx hb dX5_count_1 (by rw [c_5]; decide) (by rw [c_5]; decide) (by rw [c_5]; rfl) (by decide) ?_
        refine lv_aload_n hx hb dX5_count_50 rfl (lv_at hl 0 rfl) ?_
        refine gf_RX5_88 X hK hP 0 rfl rfl dX5_count_51 ?_
        obtain rfl := Option.some.inj hf
        exact hret H locs _ ls rfl hP hS dX5_count_54
      · replace hf := of c_5 hf
        by_cases c_6 : x1 = 3
        · replace hf := ot c_6 hf
          refine lv_tableIn (off := 54) (tgt := 55) hx hb dX5_count_1 (by rw [c_6]; decide) (by rw [c_6]; decide) (by rw [c_6]; rfl) (by decide) ?_
          refine lv_aload_n hx hb dX5_count_55 rfl (lv_at hl 0 rfl) ?_
          refine gf_RX5_19 X hK hP 0 rfl rfl dX5_count_56 ?_
          refine lv_bipush (v := (14 : Int32)) hx hb dX5_count_59 (by decide) ?_
          refine iald X hK hP 1 rfl 14 (by decide) (by decide) dX5_count_61 ?_
          obtain rfl := Option.some.inj hf
          exact hret H locs _ ls rfl hP hS dX5_count_62
        · replace hf := of c_6 hf
          by_cases c_8 : x1 = 4
          · replace hf := ot c_8 hf
            refine lv_tableIn (off := 62) (tgt := 63) hx hb dX5_count_1 (by rw [c_8]; decide) (by rw [c_8]; decide) (by rw [c_8]; rfl) (by decide) ?_
            refine lv_aload_n hx hb dX5_count_63 rfl (lv_at hl 0 rfl) ?_
            refine gf_RX5_53 X hK hP 0 rfl rfl dX5_count_64 ?_
            obtain rfl := Option.some.inj hf
            exact hret H locs _ ls rfl hP hS dX5_count_67
          · replace hf := of c_8 hf
            refine lv_tableOut (tgt := 68) hx hb dX5_count_1 (by
                have e_1 := lv_neT c_1 (show (0 : Int32).toInt = 0 by decide)
                have e_3 := lv_neT c_3 (show (1 : Int32).toInt = 1 by decide)
                have e_5 := lv_neT c_5 (show (2 : Int32).toInt = 2 by decide)
                have e_6 := lv_neT c_6 (show (3 : Int32).toInt = 3 by decide)
                have e_8 := lv_neT c_8 (show (4 : Int32).toInt = 4 by decide)
                omega) (by decide) ?_
            refine lv_iconst (v := (-1 : Int32)) hx hb dX5_count_68 (by decide) ?_
            obtain rfl := Option.some.inj hf
            exact hret H locs _ ls rfl hP hS dX5_count_69

abbrev w_X5_trace (E : Ev) (p_this : Nat) (p_text : Nat) (p_told : Nat) (p_draft : Nat) (p_s : Nat) (p_images : Nat) (p_kept : Nat) (p_notes : Nat) (p_held : Nat) (p_soonest : Nat) (v_trace : Int64) (v_typed : Int32) (v_noted : Int32) (v_at : Int32) (v_sort : Int32) (v_start : Int32) (v_value : Int32) (v_vanillaIn : Int32) : va_W := [(p_this, .inr (5, [.long v_trace, .ref p_text, .int v_typed, .ref p_told, .ref p_draft, .ref p_s, .ref p_images, .ref p_kept, .ref p_notes, .int v_noted, .int v_at, .int v_sort, .int v_start, .int v_value, .int v_vanillaIn, .ref p_held, .ref p_soonest]))]
set_option maxHeartbeats 4000000 in
set_option maxRecDepth 100000 in
theorem m_X5_trace {l : Launch} (E : Ev) (p_this : Nat) (p_text : Nat) (p_told : Nat) (p_draft : Nat) (p_s : Nat) (p_images : Nat) (p_kept : Nat) (p_notes : Nat) (p_held : Nat) (p_soonest : Nat) (v_trace : Int64) (v_typed : Int32) (v_noted : Int32) (v_at : Int32) (v_sort : Int32) (v_start : Int32) (v_value : Int32) (v_vanillaIn : Int32)  (res : Int64) (hf : f_X5_trace  v_trace  = some res) : PureL l E 1 yX5_trace cX5_trace 1 [.ref p_this] (w_X5_trace E p_this p_text p_told p_draft p_s p_images p_kept p_notes p_held p_soonest v_trace v_typed v_noted v_at v_sort v_start v_value v_vanillaIn) res := by
  refine PureL.of (by decide) (Nat.le_of_ble_eq_true rfl) ?_
  intro p e s m args below meth c Q A X hK hA hret H locs ls hl hP hS
  obtain ⟨hx, hb, hml, hown, hts, hrt, hlk⟩ := id X
  have hl : lv_has ls 1 [(0, .ref p_this)] := hl
  unfold f_X5_trace at hf
  refine lv_aload_n hx hb dX5_trace_0 rfl (lv_at hl 0 rfl) ?_
  refine gf_RX5_147 X hK hP 0 rfl rfl dX5_trace_1 ?_
  obtain rfl := Option.some.inj hf
  exact hret H locs _ ls hP hS dX5_trace_4

