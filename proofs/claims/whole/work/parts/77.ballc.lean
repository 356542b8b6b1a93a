/-! Ball's constructor -/
abbrev klB : List (Nat × Nat) := [(3, 0), (10, 0), (11, 0), (12, 0)]
abbrev eB0 : va_E := .inr (0, [.null, .null, .null, .int 0])
set_option maxHeartbeats 4000000 in
set_option maxRecDepth 100000 in
theorem k_X0 (l : Launch) (D : va_G) (C : Nat → ClassId) (a sz : Nat) : Met l yX0_init [.code yX0_init cX0_init 1 none] ({ frames := 2, cells := 3, slots := 7096, locals := 64 } : Room) (va_Pc [.ref a] (CPre D C a sz eB0)) (CPost D C a sz eB0 3 klB w00) 3 7096 (va_A [(a, eB0)] sz) := by
  refine Met.ofW (cc := cX0_init) (maxL := 1) (ret := none) (by decide) rfl ?_
  intro p e s m args below meth c s₁ B hml hv
  obtain ⟨rfl, hsz, hP, hSF, hD0, hAO⟩ := hv
  have hx := B.exec
  have hb := B.bytes
  have hr := B.returns
  have hown : s.vm.findClass RX0 = some m.cls := findClass_of_methodNamed B.named
  have hlocks := B.notSynchronized
  have hin : meth.name = "<init>" := (name_of_methodNamed B.named B.method).1
  subst hsz
  have hD := hD0.self (sz := s.heap.size)
  obtain ⟨A, hAe⟩ : ∃ A, va_A [(a, eB0)] s.heap.size = A := ⟨_, rfl⟩
  rw [hAe] at hD
  have hA : ∀ q : Nat, s.heap.size ≤ q → A q := fun q h => by rw [← hAe]; exact Or.inr h
  have hS : va_S A s.heap s.heap [] := va_S.rf
  have hK := hSF.1
  have hT := hSF.2.1
  have hl := lv_entry ([.ref a]) (n := 1) (Nat.le_of_ble_eq_true rfl)
  rw [lg_entry_eq]
  generalize (lg_sl ([.ref a]) ++ List.replicate (1 - (lg_sl ([.ref a])).length) Slot.unset).toArray = ls at hl ⊢
  have hl : lv_has ls 1 [(0, .ref a)] := hl
  refine lv_aload_n hx hb (show decode cX0_init 0 = .ok (.aload_n 0, 1) by decide +kernel) rfl (lv_at hl 0 rfl) ?_
  refine W.objInit hx hb hown (tk0 hT (w := .methodLink RX0 5 Lib.objectInit) (by decide +kernel) _) (tk0 hT (w := .instanceMethod Lib.objectInit) (by decide +kernel) _) (tk0 hT (w := .code Lib.objectInit ⟨#[0xb1]⟩ 1 none) (by decide +kernel) _) rfl (by rw [hml]; exact hl.1) rfl (show decode cX0_init 1 = .ok (.invokespecial 5, 3) by decide +kernel) (Nat.le_of_ble_eq_true rfl) (Nat.le_of_ble_eq_true rfl) ?_
  refine W.eq (g2 := F0 m 4 ls []) rfl ?_
  refine lv_aload_n hx hb (show decode cX0_init 4 = .ok (.aload_n 0, 1) by decide +kernel) rfl (lv_at hl 0 rfl) ?_
  refine lv_sipush hx hb (show decode cX0_init 5 = .ok (.sipush 1500, 3) by decide +kernel) rfl ?_
  refine nw_newa (ws := [(a, .inr (0, [.null, .null, .null, .int 0]))]) (N' := 1500) (a0 := (1500, .inr (.inl (fun _ => 0)))) hx hb (atype := .long) (tk0 hT (by decide +kernel) _) rfl (fun _ h => by cases h) 1 rfl hK hP hD hS hA (fun _ => rfl) (by decide) (by decide) (by decide) (by decide) (by decide) (show decode cX0_init 8 = .ok (.newarray .long, 2) by decide +kernel) (fun q1 H hP hD hS => ?_)
  have hP : va_P D vwCl ([(a, .inr (0, [.null, .null, .null, .int 0])), (q1, .inl (C 2, 1500, .inr (.inl (fun _ => 0))))]) H := hP
  have hD : va_D A ([(a, .inr (0, [.null, .null, .null, .int 0])), (q1, .inl (C 2, 1500, .inr (.inl (fun _ => 0))))]) := hD
  refine va_putF (D := D) (ci := 0) (v := .ref q1) (ty := .array .long) (C := RX0) (T := TX0) (N := 4) hx hb (Ts := u_ws RX0 TX0 4) (fun w hw => hT.use (cls_ws 0 (by decide) w hw).1 (cls_ws 0 (by decide) w hw).2 _) (fun w hw => hw) tyX0 tyX0_ok nmX0 hown hK hP hD hS 0 rfl rfl 0 (by decide) (tk0 hT (w := .fieldLink RX0 11 RX0 "members" "[J") (by decide +kernel) _) (fun _ h9 => h9) rfl hin rfl (by decide +kernel) rfl rfl (Nat.le_of_ble_eq_true rfl) (show decode cX0_init 10 = .ok (.putfield 11, 3) by decide +kernel) (fun H locs hP hD hS => ?_)
  have hP : va_P D vwCl ([(a, .inr (0, [.ref q1, .null, .null, .int 0])), (q1, .inl (C 2, 1500, .inr (.inl (fun _ => 0))))]) H := hP
  have hD : va_D A ([(a, .inr (0, [.ref q1, .null, .null, .int 0])), (q1, .inl (C 2, 1500, .inr (.inl (fun _ => 0))))]) := hD
  refine lv_aload_n hx hb (show decode cX0_init 13 = .ok (.aload_n 0, 1) by decide +kernel) rfl (lv_at hl 0 rfl) ?_
  refine lv_sipush hx hb (show decode cX0_init 14 = .ok (.sipush 1500, 3) by decide +kernel) rfl ?_
  refine nw_newa (ws := [(a, .inr (0, [.ref q1, .null, .null, .int 0])), (q1, .inl (C 2, 1500, .inr (.inl (fun _ => 0))))]) (N' := 1500) (a0 := (1500, .inl (fun _ => 0))) hx hb (atype := .int) (tk0 hT (by decide +kernel) _) rfl (fun _ h => by cases h) 0 rfl hK hP hD hS hA (fun _ => rfl) (by decide) (by decide) (by decide) (by decide) (by decide) (show decode cX0_init 17 = .ok (.newarray .int, 2) by decide +kernel) (fun q2 H hP hD hS => ?_)
  have hP : va_P D vwCl ([(a, .inr (0, [.ref q1, .null, .null, .int 0])), (q1, .inl (C 2, 1500, .inr (.inl (fun _ => 0)))), (q2, .inl (C 1, 1500, .inl (fun _ => 0)))]) H := hP
  have hD : va_D A ([(a, .inr (0, [.ref q1, .null, .null, .int 0])), (q1, .inl (C 2, 1500, .inr (.inl (fun _ => 0)))), (q2, .inl (C 1, 1500, .inl (fun _ => 0)))]) := hD
  refine va_putF (D := D) (ci := 0) (v := .ref q2) (ty := .array .int) (C := RX0) (T := TX0) (N := 4) hx hb (Ts := u_ws RX0 TX0 4) (fun w hw => hT.use (cls_ws 0 (by decide) w hw).1 (cls_ws 0 (by decide) w hw).2 _) (fun w hw => hw) tyX0 tyX0_ok nmX0 hown hK hP hD hS 0 rfl rfl 1 (by decide) (tk0 hT (w := .fieldLink RX0 15 RX0 "distances" "[I") (by decide +kernel) _) (fun _ h9 => h9) rfl hin rfl (by decide +kernel) rfl rfl (Nat.le_of_ble_eq_true rfl) (show decode cX0_init 19 = .ok (.putfield 15, 3) by decide +kernel) (fun H locs hP hD hS => ?_)
  have hP : va_P D vwCl ([(a, .inr (0, [.ref q1, .ref q2, .null, .int 0])), (q1, .inl (C 2, 1500, .inr (.inl (fun _ => 0)))), (q2, .inl (C 1, 1500, .inl (fun _ => 0)))]) H := hP
  have hD : va_D A ([(a, .inr (0, [.ref q1, .ref q2, .null, .int 0])), (q1, .inl (C 2, 1500, .inr (.inl (fun _ => 0)))), (q2, .inl (C 1, 1500, .inl (fun _ => 0)))]) := hD
  refine lv_aload_n hx hb (show decode cX0_init 22 = .ok (.aload_n 0, 1) by decide +kernel) rfl (lv_at hl 0 rfl) ?_
  refine lv_sipush hx hb (show decode cX0_init 23 = .ok (.sipush 4096, 3) by decide +kernel) rfl ?_
  refine nw_newa (ws := [(a, .inr (0, [.ref q1, .ref q2, .null, .int 0])), (q1, .inl (C 2, 1500, .inr (.inl (fun _ => 0)))), (q2, .inl (C 1, 1500, .inl (fun _ => 0)))]) (N' := 4096) (a0 := (4096, .inl (fun _ => 0))) hx hb (atype := .int) (tk0 hT (by decide +kernel) _) rfl (fun _ h => by cases h) 0 rfl hK hP hD hS hA (fun _ => rfl) (by decide) (by decide) (by decide) (by decide) (by decide) (show decode cX0_init 26 = .ok (.newarray .int, 2) by decide +kernel) (fun q3 H hP hD hS => ?_)
  have hP : va_P D vwCl ([(a, .inr (0, [.ref q1, .ref q2, .null, .int 0])), (q1, .inl (C 2, 1500, .inr (.inl (fun _ => 0)))), (q2, .inl (C 1, 1500, .inl (fun _ => 0))), (q3, .inl (C 1, 4096, .inl (fun _ => 0)))]) H := hP
  have hD : va_D A ([(a, .inr (0, [.ref q1, .ref q2, .null, .int 0])), (q1, .inl (C 2, 1500, .inr (.inl (fun _ => 0)))), (q2, .inl (C 1, 1500, .inl (fun _ => 0))), (q3, .inl (C 1, 4096, .inl (fun _ => 0)))]) := hD
  refine va_putF (D := D) (ci := 0) (v := .ref q3) (ty := .array .int) (C := RX0) (T := TX0) (N := 4) hx hb (Ts := u_ws RX0 TX0 4) (fun w hw => hT.use (cls_ws 0 (by decide) w hw).1 (cls_ws 0 (by decide) w hw).2 _) (fun w hw => hw) tyX0 tyX0_ok nmX0 hown hK hP hD hS 0 rfl rfl 2 (by decide) (tk0 hT (w := .fieldLink RX0 19 RX0 "slots" "[I") (by decide +kernel) _) (fun _ h9 => h9) rfl hin rfl (by decide +kernel) rfl rfl (Nat.le_of_ble_eq_true rfl) (show decode cX0_init 28 = .ok (.putfield 19, 3) by decide +kernel) (fun H locs hP hD hS => ?_)
  have hP : va_P D vwCl ([(a, .inr (0, [.ref q1, .ref q2, .ref q3, .int 0])), (q1, .inl (C 2, 1500, .inr (.inl (fun _ => 0)))), (q2, .inl (C 1, 1500, .inl (fun _ => 0))), (q3, .inl (C 1, 4096, .inl (fun _ => 0)))]) H := hP
  have hD : va_D A ([(a, .inr (0, [.ref q1, .ref q2, .ref q3, .int 0])), (q1, .inl (C 2, 1500, .inr (.inl (fun _ => 0)))), (q2, .inl (C 1, 1500, .inl (fun _ => 0))), (q3, .inl (C 1, 4096, .inl (fun _ => 0)))]) := hD
  refine W.widen (k := 3) (n := 7096) (by decide) (by decide) ?_
  exact W.vret hx hb hr (fun t ht hW => ⟨⟨fun k _ => match k with | 3 => a | 10 => q1 | 11 => q2 | _ => q3, rfl, rfl, by rw [ht]; exact hP, by rw [hAe]; exact hD⟩, by rw [hAe]; exact hS.F ht⟩) (by rw [hAe]; exact hS.2.2) (show decode cX0_init 31 = .ok (.return_, 1) by decide +kernel)
