/-! Text's constructor -/
abbrev klT : List (Nat × Nat) := [(1, 0), (7, 0), (8, 0), (9, 0)]
abbrev eT0 : va_E := .inr (2, [.null, .null, .null, .int 0, .int 0, .int 0])
set_option maxHeartbeats 4000000 in
set_option maxRecDepth 100000 in
theorem k_X3 (l : Launch) (D : va_G) (C : Nat → ClassId) (a sz : Nat) : Met l yX3_init [.code yX3_init cX3_init 1 none] ({ frames := 2, cells := 3, slots := 144, locals := 64 } : Room) (va_Pc [.ref a] (CPre D C a sz eT0)) (CPost D C a sz eT0 1 klT w00) 3 144 (va_A [(a, eT0)] sz) := by
  refine Met.ofW (cc := cX3_init) (maxL := 1) (ret := none) (by decide) rfl ?_
  intro p e s m args below meth c s₁ B hml hv
  obtain ⟨rfl, hsz, hP, hSF, hD0, hAO⟩ := hv
  have hx := B.exec
  have hb := B.bytes
  have hr := B.returns
  have hown : s.vm.findClass RX3 = some m.cls := findClass_of_methodNamed B.named
  have hlocks := B.notSynchronized
  have hin : meth.name = "<init>" := (name_of_methodNamed B.named B.method).1
  subst hsz
  have hD := hD0.self (sz := s.heap.size)
  obtain ⟨A, hAe⟩ : ∃ A, va_A [(a, eT0)] s.heap.size = A := ⟨_, rfl⟩
  rw [hAe] at hD
  have hA : ∀ q : Nat, s.heap.size ≤ q → A q := fun q h => by rw [← hAe]; exact Or.inr h
  have hS : va_S A s.heap s.heap [] := va_S.rf
  have hK := hSF.1
  have hT := hSF.2.1
  have hl := lv_entry ([.ref a]) (n := 1) (Nat.le_of_ble_eq_true rfl)
  rw [lg_entry_eq]
  generalize (lg_sl ([.ref a]) ++ List.replicate (1 - (lg_sl ([.ref a])).length) Slot.unset).toArray = ls at hl ⊢
  have hl : lv_has ls 1 [(0, .ref a)] := hl
  refine lv_aload_n hx hb (show decode cX3_init 0 = .ok (.aload_n 0, 1) by decide +kernel) rfl (lv_at hl 0 rfl) ?_
  refine W.objInit hx hb hown (tk0 hT (w := .methodLink RX3 3 Lib.objectInit) (by decide +kernel) _) (tk0 hT (w := .instanceMethod Lib.objectInit) (by decide +kernel) _) (tk0 hT (w := .code Lib.objectInit ⟨#[0xb1]⟩ 1 none) (by decide +kernel) _) rfl (by rw [hml]; exact hl.1) rfl (show decode cX3_init 1 = .ok (.invokespecial 3, 3) by decide +kernel) (Nat.le_of_ble_eq_true rfl) (Nat.le_of_ble_eq_true rfl) ?_
  refine W.eq (g2 := F0 m 4 ls []) rfl ?_
  refine lv_aload_n hx hb (show decode cX3_init 4 = .ok (.aload_n 0, 1) by decide +kernel) rfl (lv_at hl 0 rfl) ?_
  refine lv_bipush hx hb (show decode cX3_init 5 = .ok (.bipush 48, 2) by decide +kernel) rfl ?_
  refine nw_newa (ws := [(a, .inr (2, [.null, .null, .null, .int 0, .int 0, .int 0]))]) (N' := 48) (a0 := (48, .inl (fun _ => 0))) hx hb (atype := .char) (tk0 hT (by decide +kernel) _) rfl (fun _ h => by cases h) 2 rfl hK hP hD hS hA (fun _ => rfl) (by decide) (by decide) (by decide) (by decide) (by decide) (show decode cX3_init 7 = .ok (.newarray .char, 2) by decide +kernel) (fun q1 H hP hD hS => ?_)
  have hP : va_P D vwCl ([(a, .inr (2, [.null, .null, .null, .int 0, .int 0, .int 0])), (q1, .inl (C 3, 48, .inl (fun _ => 0)))]) H := hP
  have hD : va_D A ([(a, .inr (2, [.null, .null, .null, .int 0, .int 0, .int 0])), (q1, .inl (C 3, 48, .inl (fun _ => 0)))]) := hD
  refine va_putF (D := D) (ci := 2) (v := .ref q1) (ty := .array .char) (C := RX3) (T := TX3) (N := 6) hx hb (Ts := u_ws RX3 TX3 6) (fun w hw => hT.use (cls_ws 2 (by decide) w hw).1 (cls_ws 2 (by decide) w hw).2 _) (fun w hw => hw) tyX3 tyX3_ok nmX3 hown hK hP hD hS 0 rfl rfl 0 (by decide) (tk0 hT (w := .fieldLink RX3 9 RX3 "signs" "[C") (by decide +kernel) _) (fun _ h9 => h9) rfl hin rfl (by decide +kernel) rfl rfl (Nat.le_of_ble_eq_true rfl) (show decode cX3_init 9 = .ok (.putfield 9, 3) by decide +kernel) (fun H locs hP hD hS => ?_)
  have hP : va_P D vwCl ([(a, .inr (2, [.ref q1, .null, .null, .int 0, .int 0, .int 0])), (q1, .inl (C 3, 48, .inl (fun _ => 0)))]) H := hP
  have hD : va_D A ([(a, .inr (2, [.ref q1, .null, .null, .int 0, .int 0, .int 0])), (q1, .inl (C 3, 48, .inl (fun _ => 0)))]) := hD
  refine lv_aload_n hx hb (show decode cX3_init 12 = .ok (.aload_n 0, 1) by decide +kernel) rfl (lv_at hl 0 rfl) ?_
  refine lv_bipush hx hb (show decode cX3_init 13 = .ok (.bipush 48, 2) by decide +kernel) rfl ?_
  refine nw_newa (ws := [(a, .inr (2, [.ref q1, .null, .null, .int 0, .int 0, .int 0])), (q1, .inl (C 3, 48, .inl (fun _ => 0)))]) (N' := 48) (a0 := (48, .inl (fun _ => 0))) hx hb (atype := .int) (tk0 hT (by decide +kernel) _) rfl (fun _ h => by cases h) 0 rfl hK hP hD hS hA (fun _ => rfl) (by decide) (by decide) (by decide) (by decide) (by decide) (show decode cX3_init 15 = .ok (.newarray .int, 2) by decide +kernel) (fun q2 H hP hD hS => ?_)
  have hP : va_P D vwCl ([(a, .inr (2, [.ref q1, .null, .null, .int 0, .int 0, .int 0])), (q1, .inl (C 3, 48, .inl (fun _ => 0))), (q2, .inl (C 1, 48, .inl (fun _ => 0)))]) H := hP
  have hD : va_D A ([(a, .inr (2, [.ref q1, .null, .null, .int 0, .int 0, .int 0])), (q1, .inl (C 3, 48, .inl (fun _ => 0))), (q2, .inl (C 1, 48, .inl (fun _ => 0)))]) := hD
  refine va_putF (D := D) (ci := 2) (v := .ref q2) (ty := .array .int) (C := RX3) (T := TX3) (N := 6) hx hb (Ts := u_ws RX3 TX3 6) (fun w hw => hT.use (cls_ws 2 (by decide) w hw).1 (cls_ws 2 (by decide) w hw).2 _) (fun w hw => hw) tyX3 tyX3_ok nmX3 hown hK hP hD hS 0 rfl rfl 1 (by decide) (tk0 hT (w := .fieldLink RX3 15 RX3 "numbers" "[I") (by decide +kernel) _) (fun _ h9 => h9) rfl hin rfl (by decide +kernel) rfl rfl (Nat.le_of_ble_eq_true rfl) (show decode cX3_init 17 = .ok (.putfield 15, 3) by decide +kernel) (fun H locs hP hD hS => ?_)
  have hP : va_P D vwCl ([(a, .inr (2, [.ref q1, .ref q2, .null, .int 0, .int 0, .int 0])), (q1, .inl (C 3, 48, .inl (fun _ => 0))), (q2, .inl (C 1, 48, .inl (fun _ => 0)))]) H := hP
  have hD : va_D A ([(a, .inr (2, [.ref q1, .ref q2, .null, .int 0, .int 0, .int 0])), (q1, .inl (C 3, 48, .inl (fun _ => 0))), (q2, .inl (C 1, 48, .inl (fun _ => 0)))]) := hD
  refine lv_aload_n hx hb (show decode cX3_init 20 = .ok (.aload_n 0, 1) by decide +kernel) rfl (lv_at hl 0 rfl) ?_
  refine lv_bipush hx hb (show decode cX3_init 21 = .ok (.bipush 48, 2) by decide +kernel) rfl ?_
  refine nw_newa (ws := [(a, .inr (2, [.ref q1, .ref q2, .null, .int 0, .int 0, .int 0])), (q1, .inl (C 3, 48, .inl (fun _ => 0))), (q2, .inl (C 1, 48, .inl (fun _ => 0)))]) (N' := 48) (a0 := (48, .inl (fun _ => 0))) hx hb (atype := .int) (tk0 hT (by decide +kernel) _) rfl (fun _ h => by cases h) 0 rfl hK hP hD hS hA (fun _ => rfl) (by decide) (by decide) (by decide) (by decide) (by decide) (show decode cX3_init 23 = .ok (.newarray .int, 2) by decide +kernel) (fun q3 H hP hD hS => ?_)
  have hP : va_P D vwCl ([(a, .inr (2, [.ref q1, .ref q2, .null, .int 0, .int 0, .int 0])), (q1, .inl (C 3, 48, .inl (fun _ => 0))), (q2, .inl (C 1, 48, .inl (fun _ => 0))), (q3, .inl (C 1, 48, .inl (fun _ => 0)))]) H := hP
  have hD : va_D A ([(a, .inr (2, [.ref q1, .ref q2, .null, .int 0, .int 0, .int 0])), (q1, .inl (C 3, 48, .inl (fun _ => 0))), (q2, .inl (C 1, 48, .inl (fun _ => 0))), (q3, .inl (C 1, 48, .inl (fun _ => 0)))]) := hD
  refine va_putF (D := D) (ci := 2) (v := .ref q3) (ty := .array .int) (C := RX3) (T := TX3) (N := 6) hx hb (Ts := u_ws RX3 TX3 6) (fun w hw => hT.use (cls_ws 2 (by decide) w hw).1 (cls_ws 2 (by decide) w hw).2 _) (fun w hw => hw) tyX3 tyX3_ok nmX3 hown hK hP hD hS 0 rfl rfl 2 (by decide) (tk0 hT (w := .fieldLink RX3 19 RX3 "heads" "[I") (by decide +kernel) _) (fun _ h9 => h9) rfl hin rfl (by decide +kernel) rfl rfl (Nat.le_of_ble_eq_true rfl) (show decode cX3_init 25 = .ok (.putfield 19, 3) by decide +kernel) (fun H locs hP hD hS => ?_)
  have hP : va_P D vwCl ([(a, .inr (2, [.ref q1, .ref q2, .ref q3, .int 0, .int 0, .int 0])), (q1, .inl (C 3, 48, .inl (fun _ => 0))), (q2, .inl (C 1, 48, .inl (fun _ => 0))), (q3, .inl (C 1, 48, .inl (fun _ => 0)))]) H := hP
  have hD : va_D A ([(a, .inr (2, [.ref q1, .ref q2, .ref q3, .int 0, .int 0, .int 0])), (q1, .inl (C 3, 48, .inl (fun _ => 0))), (q2, .inl (C 1, 48, .inl (fun _ => 0))), (q3, .inl (C 1, 48, .inl (fun _ => 0)))]) := hD
  refine W.widen (k := 3) (n := 144) (by decide) (by decide) ?_
  exact W.vret hx hb hr (fun t ht hW => ⟨⟨fun k _ => match k with | 1 => a | 7 => q1 | 8 => q2 | _ => q3, rfl, rfl, by rw [ht]; exact hP, by rw [hAe]; exact hD⟩, by rw [hAe]; exact hS.F ht⟩) (by rw [hAe]; exact hS.2.2) (show decode cX3_init 28 = .ok (.return_, 1) by decide +kernel)
