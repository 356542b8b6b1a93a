/-! StickerFoundry's constructor -/
abbrev klX : List (Nat × Nat) := [(0, 0), (1, 0), (7, 0), (8, 0), (9, 0), (2, 0), (13, 0), (14, 0), (14, 1), (14, 2), (14, 3), (14, 4), (14, 5), (14, 6), (14, 7), (14, 8), (14, 9), (14, 10), (14, 11), (15, 0), (16, 0), (16, 1), (16, 2), (16, 3), (16, 4), (16, 5), (16, 6), (16, 7), (16, 8), (16, 9), (16, 10), (16, 11), (17, 0), (18, 0), (18, 1), (18, 2), (18, 3), (18, 4), (18, 5), (18, 6), (18, 7), (18, 8), (18, 9), (18, 10), (18, 11), (19, 0), (20, 0), (20, 1), (20, 2), (20, 3), (20, 4), (20, 5), (20, 6), (20, 7), (20, 8), (20, 9), (20, 10), (20, 11), (21, 0), (22, 0), (3, 0), (10, 0), (11, 0), (12, 0), (4, 0), (5, 0), (6, 0)]
abbrev klY : List (Nat × Nat) := [(4, 0), (5, 0), (6, 0)]
theorem klX_eq : klX = (0, 0) :: (klT ++ (klC ++ (klB ++ klY))) := rfl
def afX (a : Nat) (uT uC uB : Nat → Nat → Nat) (q4 q5 q6 : Nat) : Nat → Nat → Nat := fun k i => match k with | 0 => a | 1 => uT 1 i | 7 => uT 7 i | 8 => uT 8 i | 9 => uT 9 i | 3 => uB 3 i | 10 => uB 10 i | 11 => uB 11 i | 12 => uB 12 i | 4 => q4 | 5 => q5 | 6 => q6 | k => uC k i
theorem wl_split (A : Nat → Nat → Nat) (D : va_G) (C : Nat → ClassId) (w : Wd) : wl (A, D, C, klX) w = (A 0 0, wcell (A, D, C, klX) w 0 0) :: (wl (A, D, C, klT) w ++ (wl (A, D, C, klC) w ++ (wl (A, D, C, klB) w ++ wl (A, D, C, klY) w))) := by
  have h : ∀ kl k i, wcell (A, D, C, klX) w k i = wcell (A, D, C, kl) w k i := fun _ _ _ => rfl
  unfold wl
  show List.map _ klX = _
  rw [klX_eq, List.map_cons, List.map_append, List.map_append, List.map_append]
  rfl
theorem wl_same {A B : Nat → Nat → Nat} {D : va_G} {C : Nat → ClassId} {w : Wd} {kl : List (Nat × Nat)} (h : ∀ q ∈ kl, A q.1 q.2 = B q.1 q.2 ∧ wcell (A, D, C, kl) w q.1 q.2 = wcell (B, D, C, kl) w q.1 q.2) : wl (A, D, C, kl) w = wl (B, D, C, kl) w := by
  unfold wl
  refine List.map_congr_left (fun q hq => ?_)
  show (A q.1 q.2, wcell (A, D, C, kl) w q.1 q.2) = (B q.1 q.2, wcell (B, D, C, kl) w q.1 q.2)
  rw [(h q hq).1, (h q hq).2]
set_option maxRecDepth 100000 in
theorem afX_T (a : Nat) (uT uC uB : Nat → Nat → Nat) (q4 q5 q6 : Nat) (D : va_G) (C : Nat → ClassId) (w : Wd) : wl (afX a uT uC uB q4 q5 q6, D, C, klT) w = wl (uT, D, C, klT) w := by
  refine wl_same (fun q hq => ?_)
  simp only [List.mem_cons, List.not_mem_nil, or_false] at hq
  rcases hq with rfl | rfl | rfl | rfl <;> exact ⟨rfl, rfl⟩
set_option maxRecDepth 100000 in
theorem afX_B (a : Nat) (uT uC uB : Nat → Nat → Nat) (q4 q5 q6 : Nat) (D : va_G) (C : Nat → ClassId) (w : Wd) : wl (afX a uT uC uB q4 q5 q6, D, C, klB) w = wl (uB, D, C, klB) w := by
  refine wl_same (fun q hq => ?_)
  simp only [List.mem_cons, List.not_mem_nil, or_false] at hq
  rcases hq with rfl | rfl | rfl | rfl <;> exact ⟨rfl, rfl⟩
set_option maxRecDepth 100000 in
theorem afX_C (a : Nat) (uT uC uB : Nat → Nat → Nat) (q4 q5 q6 : Nat) (D : va_G) (C : Nat → ClassId) (w : Wd) : wl (afX a uT uC uB q4 q5 q6, D, C, klC) w = wl (uC, D, C, klC) w := by
  refine wl_same (fun q hq => ?_)
  simp only [List.mem_cons, List.not_mem_nil, or_false] at hq
  rcases hq with rfl | rfl | rfl | rfl | rfl | rfl | rfl | rfl | rfl | rfl | rfl | rfl | rfl | rfl | rfl | rfl | rfl | rfl | rfl | rfl | rfl | rfl | rfl | rfl | rfl | rfl | rfl | rfl | rfl | rfl | rfl | rfl | rfl | rfl | rfl | rfl | rfl | rfl | rfl | rfl | rfl | rfl | rfl | rfl | rfl | rfl | rfl | rfl | rfl | rfl | rfl | rfl | rfl | rfl | rfl <;> exact ⟨rfl, rfl⟩
theorem klX_ek {A : Nat → Nat → Nat} {D : va_G} {C : Nat → ClassId} : EK (A, D, C, klX) gkC := by
  refine ⟨(by decide +kernel : klX.Nodup), fun k i hk hi => ?_⟩
  have hk : k < 30 := Nat.le_of_ble_eq_true hk
  have h : ∀ k, k < 30 → ∀ i, i < cnt k → (k, i) ∈ klX := by decide +kernel
  exact h k hk i hi
def pgI : List (Nat × Instr × Nat) := [(62, .aload_n 0, 0), (63, .iconst 1, 0), (64, .invokevirtual 41, 0), (67, .return_, 0)]
theorem pgI_ok : pgI.all (pgOK cX4_init) = true := by decide +kernel
abbrev XPost (D : va_G) (C : Nat → ClassId) (a sz : Nat) : Array Value → State → Outcome → State → Prop := va_Qv (S := (Nat → Nat → Nat) × Wd) (fun u => u.1 0 0 = a ∧ KI u.2 (1, [], idp, [], [])) (fun u t => va_P D vwCl (wl (u.1, D, C, klX) u.2) t.heap ∧ va_D (va_A [(a, eX0)] sz) (wl (u.1, D, C, klX) u.2)) (va_A [(a, eX0)] sz)
theorem tx00 : TxW w00 [] := by
  unfold TxW
  exact ⟨rfl, by decide, fun i c h => by cases h⟩
theorem sk00 : SK w00 [] := by
  unfold SK
  exact ⟨by decide, rfl, fun i m h => (by cases h), fun m h => (by cases h)⟩
set_option maxHeartbeats 8000000 in
set_option maxRecDepth 100000 in
theorem k_X4 (l : Launch) (hl0 : l.stackTraces = false) (D : va_G) (C : Nat → ClassId) (a sz : Nat) : Met l yX4_init [.code yX4_init cX4_init 1 none] ({ frames := 16, cells := 66, slots := 9474, locals := 600 } : Room) (va_Pc [.ref a] (XPre D C a sz)) (XPost D C a sz) 66 9474 (va_A [(a, eX0)] sz) := by
  refine Met.ofW (cc := cX4_init) (maxL := 1) (ret := none) (by decide) rfl ?_
  intro p e s m args below meth c s₁ B hml hv
  obtain ⟨rfl, ⟨hsz, hP, hSF, hD0, hAO⟩, hNW⟩ := hv
  have hx := B.exec
  have hb := B.bytes
  have hr := B.returns
  have hown : s.vm.findClass RX4 = some m.cls := findClass_of_methodNamed B.named
  have hlocks := B.notSynchronized
  have hin : meth.name = "<init>" := (name_of_methodNamed B.named B.method).1
  subst hsz
  have hD := hD0.self (sz := s.heap.size)
  obtain ⟨A, hAe⟩ : ∃ A, va_A [(a, eX0)] s.heap.size = A := ⟨_, rfl⟩
  rw [hAe] at hD
  have hA : ∀ q : Nat, s.heap.size ≤ q → A q := fun q h => by rw [← hAe]; exact Or.inr h
  have hAE : ∀ x, A x → AE (Ea a D C) s.heap.size x := fun x h => by
    rw [← hAe] at h
    rcases h with ⟨k, e, h⟩ | h
    · match k, h with
      | 0, h =>
        cases h
        exact Or.inl ⟨(0, 0), List.mem_cons_self, rfl⟩
      | k + 1, h => cases h
    · exact Or.inr h
  have hAa : A a := by rw [← hAe]; exact Or.inl ⟨0, _, rfl⟩
  have hS : va_S A s.heap s.heap [] := va_S.rf
  have hK := hSF.1
  have hT := hSF.2.1
  have hl := lv_entry ([.ref a]) (n := 1) (Nat.le_of_ble_eq_true rfl)
  rw [lg_entry_eq]
  generalize (lg_sl ([.ref a]) ++ List.replicate (1 - (lg_sl ([.ref a])).length) Slot.unset).toArray = ls at hl ⊢
  have hl : lv_has ls 1 [(0, .ref a)] := hl
  refine lv_aload_n hx hb (show decode cX4_init 0 = .ok (.aload_n 0, 1) by decide +kernel) rfl (lv_at hl 0 rfl) ?_
  refine W.objInit hx hb hown (tk0 hT (w := .methodLink RX4 1 Lib.objectInit) (by decide +kernel) _) (tk0 hT (w := .instanceMethod Lib.objectInit) (by decide +kernel) _) (tk0 hT (w := .code Lib.objectInit ⟨#[0xb1]⟩ 1 none) (by decide +kernel) _) rfl (by rw [hml]; exact hl.1) rfl (show decode cX4_init 1 = .ok (.invokespecial 1, 3) by decide +kernel) (Nat.le_of_ble_eq_true rfl) (Nat.le_of_ble_eq_true rfl) ?_
  refine W.eq (g2 := F0 m 4 ls []) rfl ?_
  refine lv_aload_n hx hb (show decode cX4_init 4 = .ok (.aload_n 0, 1) by decide +kernel) rfl (lv_at hl 0 rfl) ?_
  refine va_new (ws := (a, .inr (3, [.null, .null, .null, .null, .null, .null, .int 0, .int 0, .int 0, .long 0, .int 0])) :: []) (ci := 2) (fs := [.null, .null, .null, .int 0, .int 0, .int 0]) (C := RX3) (T := TX3) (N := 6) hx hb (Ts := u_ws RX3 TX3 6) (fun w hw => hT.use (cls_ws 2 (by decide) w hw).1 (cls_ws 2 (by decide) w hw).2 _) (fun w hw => hw) tyX3 tyX3_ok hown (tk0 hT (w := .classLink RX4 7 RX3) (by decide +kernel) _) (tk0 hT (w := .instantiable RX3 6) (by decide +kernel) _) (tk0 hT (w := .initialized RX3) (by decide +kernel) _) hK hP hD hS hA rfl (fun j hj => by match j, hj with | 0, _ => rfl | 1, _ => rfl | 2, _ => rfl | 3, _ => rfl | 4, _ => rfl | 5, _ => rfl) (by decide) (by decide) (show decode cX4_init 5 = .ok (.new 7, 3) by decide +kernel) (fun qT H hP hD hS => ?_)
  refine lv_dup hx hb (show decode cX4_init 8 = .ok (.dup, 1) by decide +kernel) rfl ?_
  have hp := cpre_of (ws := (a, .inr (3, [.null, .null, .null, .null, .null, .null, .int 0, .int 0, .int 0, .long 0, .int 0])) :: []) (q := qT) (e0 := eT0) hSF hAO hP hD hS hAE
  refine nw_after (ws := (a, .inr (3, [.null, .null, .null, .null, .null, .null, .int 0, .int 0, .int 0, .long 0, .int 0])) :: []) (va_runIN (As := []) (rest := [.ref qT, .ref a]) (Ts := []) (host := RX4) (own := RX4) (bytes := cX3_init) (maxL := 1) (n := 0) ⟨hx, hb, hml, hown, fun _ h => by cases h⟩ (k_X3 l D C qT H.size) ⟨⟨⟨rfl, rfl, Nat.le_of_ble_eq_true rfl, Nat.le_of_ble_eq_true rfl, fun w hw a' U hW => by rw [List.mem_singleton] at hw; rw [hw]; exact tk0 (hT.moved hW) (w := .code yX3_init cX3_init 1 none) (by decide +kernel) _, List.mem_cons_self⟩, tk0 hT (w := .code yX3_init cX3_init 1 none) (by decide +kernel) _, tk0 hT (w := .initialized RX3) (by decide +kernel) _, ⟨by decide, by decide⟩, desc_len (by decide +kernel), va_Nw.use rfl hNW.1⟩, rfl, tk0 hT (w := .instanceMethod yX3_init) (by decide +kernel) _⟩ ⟨CPre.blind, fun U hU hW => ⟨rfl, hp U hU hW⟩⟩ rfl rfl hl.1 rfl (lv_room (Nat.le_of_ble_eq_true rfl)) (show decode cX4_init 9 = .ok (.invokespecial 9, 3) by decide +kernel) ⟨by decide, by decide⟩) hP hD hS hA (fun uT H locs huT hP hD hS => ?_)
  have hP : va_P D vwCl ((a, .inr (3, [.null, .null, .null, .null, .null, .null, .int 0, .int 0, .int 0, .long 0, .int 0])) :: wl (uT, D, C, klT) w00) H := hP
  have hD : va_D A ((a, .inr (3, [.null, .null, .null, .null, .null, .null, .int 0, .int 0, .int 0, .long 0, .int 0])) :: wl (uT, D, C, klT) w00) := hD
  obtain ⟨X1, hX1⟩ : ∃ X, X = wl (uT, D, C, klT) w00 := ⟨_, rfl⟩
  rw [← hX1] at hP hD
  refine va_putF (D := D) (ci := 3) (v := .ref qT) (ty := .object "StickerFoundry$Text") (C := RX4) (T := TX4) (N := 11) hx hb (Ts := u_ws RX4 TX4 11) (fun w hw => hT.use (cls_ws 3 (by decide) w hw).1 (cls_ws 3 (by decide) w hw).2 _) (fun w hw => hw) tyX4 tyX4_ok nmX4 hown hK hP hD hS 0 rfl rfl 0 (by decide) (tk0 hT (w := .fieldLink RX4 10 RX4 "text" "LStickerFoundry$Text;") (by decide +kernel) _) (fun _ h9 => h9) rfl hin rfl (by decide +kernel) rfl rfl (Nat.le_of_ble_eq_true rfl) (show decode cX4_init 12 = .ok (.putfield 10, 3) by decide +kernel) (fun H locs hP hD hS => ?_)
  have hP : va_P D vwCl ((a, .inr (3, [.ref qT, .null, .null, .null, .null, .null, .int 0, .int 0, .int 0, .long 0, .int 0])) :: X1) H := hP
  have hD : va_D A ((a, .inr (3, [.ref qT, .null, .null, .null, .null, .null, .int 0, .int 0, .int 0, .long 0, .int 0])) :: X1) := hD
  refine lv_aload_n hx hb (show decode cX4_init 15 = .ok (.aload_n 0, 1) by decide +kernel) rfl (lv_at hl 0 rfl) ?_
  refine va_new (ws := (a, .inr (3, [.ref qT, .null, .null, .null, .null, .null, .int 0, .int 0, .int 0, .long 0, .int 0])) :: X1) (ci := 1) (fs := [.null, .null, .null, .null, .null, .null]) (C := RX1) (T := TX1) (N := 6) hx hb (Ts := u_ws RX1 TX1 6) (fun w hw => hT.use (cls_ws 1 (by decide) w hw).1 (cls_ws 1 (by decide) w hw).2 _) (fun w hw => hw) tyX1 tyX1_ok hown (tk0 hT (w := .classLink RX4 16 RX1) (by decide +kernel) _) (tk0 hT (w := .instantiable RX1 6) (by decide +kernel) _) (tk0 hT (w := .initialized RX1) (by decide +kernel) _) hK hP hD hS hA rfl (fun j hj => by match j, hj with | 0, _ => rfl | 1, _ => rfl | 2, _ => rfl | 3, _ => rfl | 4, _ => rfl | 5, _ => rfl) (by decide) (by decide) (show decode cX4_init 16 = .ok (.new 16, 3) by decide +kernel) (fun qC H hP hD hS => ?_)
  refine lv_dup hx hb (show decode cX4_init 19 = .ok (.dup, 1) by decide +kernel) rfl ?_
  have hp := cpre_of (ws := (a, .inr (3, [.ref qT, .null, .null, .null, .null, .null, .int 0, .int 0, .int 0, .long 0, .int 0])) :: X1) (q := qC) (e0 := eC0) hSF hAO hP hD hS hAE
  refine nw_after (ws := (a, .inr (3, [.ref qT, .null, .null, .null, .null, .null, .int 0, .int 0, .int 0, .long 0, .int 0])) :: X1) (va_runIN (As := []) (rest := [.ref qC, .ref a]) (Ts := []) (host := RX4) (own := RX4) (bytes := cX1_init) (maxL := 1) (n := 0) ⟨hx, hb, hml, hown, fun _ h => by cases h⟩ (k_X1 l D C qC H.size) ⟨⟨⟨rfl, rfl, Nat.le_of_ble_eq_true rfl, Nat.le_of_ble_eq_true rfl, fun w hw a' U hW => by rw [List.mem_singleton] at hw; rw [hw]; exact tk0 (hT.moved hW) (w := .code yX1_init cX1_init 1 none) (by decide +kernel) _, List.mem_cons_self⟩, tk0 hT (w := .code yX1_init cX1_init 1 none) (by decide +kernel) _, tk0 hT (w := .initialized RX1) (by decide +kernel) _, ⟨by decide, by decide⟩, desc_len (by decide +kernel), va_Nw.use rfl hNW.2.1⟩, rfl, tk0 hT (w := .instanceMethod yX1_init) (by decide +kernel) _⟩ ⟨CPre.blind, fun U hU hW => ⟨rfl, hp U hU hW⟩⟩ rfl rfl hl.1 rfl (lv_room (Nat.le_of_ble_eq_true rfl)) (show decode cX4_init 20 = .ok (.invokespecial 18, 3) by decide +kernel) ⟨by decide, by decide⟩) hP hD hS hA (fun uC H locs huC hP hD hS => ?_)
  have hP : va_P D vwCl ((a, .inr (3, [.ref qT, .null, .null, .null, .null, .null, .int 0, .int 0, .int 0, .long 0, .int 0])) :: (X1 ++ wl (uC, D, C, klC) w00)) H := hP
  have hD : va_D A ((a, .inr (3, [.ref qT, .null, .null, .null, .null, .null, .int 0, .int 0, .int 0, .long 0, .int 0])) :: (X1 ++ wl (uC, D, C, klC) w00)) := hD
  obtain ⟨X2, hX2⟩ : ∃ X, X = X1 ++ wl (uC, D, C, klC) w00 := ⟨_, rfl⟩
  rw [← hX2] at hP hD
  refine va_putF (D := D) (ci := 3) (v := .ref qC) (ty := .object "StickerFoundry$Chain") (C := RX4) (T := TX4) (N := 11) hx hb (Ts := u_ws RX4 TX4 11) (fun w hw => hT.use (cls_ws 3 (by decide) w hw).1 (cls_ws 3 (by decide) w hw).2 _) (fun w hw => hw) tyX4 tyX4_ok nmX4 hown hK hP hD hS 0 rfl rfl 1 (by decide) (tk0 hT (w := .fieldLink RX4 19 RX4 "chain" "LStickerFoundry$Chain;") (by decide +kernel) _) (fun _ h9 => h9) rfl hin rfl (by decide +kernel) rfl rfl (Nat.le_of_ble_eq_true rfl) (show decode cX4_init 23 = .ok (.putfield 19, 3) by decide +kernel) (fun H locs hP hD hS => ?_)
  have hP : va_P D vwCl ((a, .inr (3, [.ref qT, .ref qC, .null, .null, .null, .null, .int 0, .int 0, .int 0, .long 0, .int 0])) :: X2) H := hP
  have hD : va_D A ((a, .inr (3, [.ref qT, .ref qC, .null, .null, .null, .null, .int 0, .int 0, .int 0, .long 0, .int 0])) :: X2) := hD
  refine lv_aload_n hx hb (show decode cX4_init 26 = .ok (.aload_n 0, 1) by decide +kernel) rfl (lv_at hl 0 rfl) ?_
  refine va_new (ws := (a, .inr (3, [.ref qT, .ref qC, .null, .null, .null, .null, .int 0, .int 0, .int 0, .long 0, .int 0])) :: X2) (ci := 0) (fs := [.null, .null, .null, .int 0]) (C := RX0) (T := TX0) (N := 4) hx hb (Ts := u_ws RX0 TX0 4) (fun w hw => hT.use (cls_ws 0 (by decide) w hw).1 (cls_ws 0 (by decide) w hw).2 _) (fun w hw => hw) tyX0 tyX0_ok hown (tk0 hT (w := .classLink RX4 23 RX0) (by decide +kernel) _) (tk0 hT (w := .instantiable RX0 4) (by decide +kernel) _) (tk0 hT (w := .initialized RX0) (by decide +kernel) _) hK hP hD hS hA rfl (fun j hj => by match j, hj with | 0, _ => rfl | 1, _ => rfl | 2, _ => rfl | 3, _ => rfl) (by decide) (by decide) (show decode cX4_init 27 = .ok (.new 23, 3) by decide +kernel) (fun qB H hP hD hS => ?_)
  refine lv_dup hx hb (show decode cX4_init 30 = .ok (.dup, 1) by decide +kernel) rfl ?_
  have hp := cpre_of (ws := (a, .inr (3, [.ref qT, .ref qC, .null, .null, .null, .null, .int 0, .int 0, .int 0, .long 0, .int 0])) :: X2) (q := qB) (e0 := eB0) hSF hAO hP hD hS hAE
  refine nw_after (ws := (a, .inr (3, [.ref qT, .ref qC, .null, .null, .null, .null, .int 0, .int 0, .int 0, .long 0, .int 0])) :: X2) (va_runIN (As := []) (rest := [.ref qB, .ref a]) (Ts := []) (host := RX4) (own := RX4) (bytes := cX0_init) (maxL := 1) (n := 0) ⟨hx, hb, hml, hown, fun _ h => by cases h⟩ (k_X0 l D C qB H.size) ⟨⟨⟨rfl, rfl, Nat.le_of_ble_eq_true rfl, Nat.le_of_ble_eq_true rfl, fun w hw a' U hW => by rw [List.mem_singleton] at hw; rw [hw]; exact tk0 (hT.moved hW) (w := .code yX0_init cX0_init 1 none) (by decide +kernel) _, List.mem_cons_self⟩, tk0 hT (w := .code yX0_init cX0_init 1 none) (by decide +kernel) _, tk0 hT (w := .initialized RX0) (by decide +kernel) _, ⟨by decide, by decide⟩, desc_len (by decide +kernel), va_Nw.use rfl hNW.2.2⟩, rfl, tk0 hT (w := .instanceMethod yX0_init) (by decide +kernel) _⟩ ⟨CPre.blind, fun U hU hW => ⟨rfl, hp U hU hW⟩⟩ rfl rfl hl.1 rfl (lv_room (Nat.le_of_ble_eq_true rfl)) (show decode cX4_init 31 = .ok (.invokespecial 25, 3) by decide +kernel) ⟨by decide, by decide⟩) hP hD hS hA (fun uB H locs huB hP hD hS => ?_)
  have hP : va_P D vwCl ((a, .inr (3, [.ref qT, .ref qC, .null, .null, .null, .null, .int 0, .int 0, .int 0, .long 0, .int 0])) :: (X2 ++ wl (uB, D, C, klB) w00)) H := hP
  have hD : va_D A ((a, .inr (3, [.ref qT, .ref qC, .null, .null, .null, .null, .int 0, .int 0, .int 0, .long 0, .int 0])) :: (X2 ++ wl (uB, D, C, klB) w00)) := hD
  obtain ⟨X3, hX3⟩ : ∃ X, X = X2 ++ wl (uB, D, C, klB) w00 := ⟨_, rfl⟩
  rw [← hX3] at hP hD
  refine va_putF (D := D) (ci := 3) (v := .ref qB) (ty := .object "StickerFoundry$Ball") (C := RX4) (T := TX4) (N := 11) hx hb (Ts := u_ws RX4 TX4 11) (fun w hw => hT.use (cls_ws 3 (by decide) w hw).1 (cls_ws 3 (by decide) w hw).2 _) (fun w hw => hw) tyX4 tyX4_ok nmX4 hown hK hP hD hS 0 rfl rfl 2 (by decide) (tk0 hT (w := .fieldLink RX4 26 RX4 "ball" "LStickerFoundry$Ball;") (by decide +kernel) _) (fun _ h9 => h9) rfl hin rfl (by decide +kernel) rfl rfl (Nat.le_of_ble_eq_true rfl) (show decode cX4_init 34 = .ok (.putfield 26, 3) by decide +kernel) (fun H locs hP hD hS => ?_)
  have hP : va_P D vwCl ((a, .inr (3, [.ref qT, .ref qC, .ref qB, .null, .null, .null, .int 0, .int 0, .int 0, .long 0, .int 0])) :: X3) H := hP
  have hD : va_D A ((a, .inr (3, [.ref qT, .ref qC, .ref qB, .null, .null, .null, .int 0, .int 0, .int 0, .long 0, .int 0])) :: X3) := hD
  refine lv_aload_n hx hb (show decode cX4_init 37 = .ok (.aload_n 0, 1) by decide +kernel) rfl (lv_at hl 0 rfl) ?_
  refine lv_bipush hx hb (show decode cX4_init 38 = .ok (.bipush 10, 2) by decide +kernel) rfl ?_
  refine nw_newa (ws := (a, .inr (3, [.ref qT, .ref qC, .ref qB, .null, .null, .null, .int 0, .int 0, .int 0, .long 0, .int 0])) :: X3) (N' := 10) (a0 := (10, .inr (.inl (fun _ => 0)))) hx hb (atype := .long) (tk0 hT (by decide +kernel) _) rfl (fun _ h => by cases h) 1 rfl hK hP hD hS hA (fun _ => rfl) (by decide) (by decide) (by decide) (by decide) (by decide) (show decode cX4_init 40 = .ok (.newarray .long, 2) by decide +kernel) (fun q4 H hP hD hS => ?_)
  have hP : va_P D vwCl ((a, .inr (3, [.ref qT, .ref qC, .ref qB, .null, .null, .null, .int 0, .int 0, .int 0, .long 0, .int 0])) :: (X3 ++ [(q4, .inl (C 2, 10, .inr (.inl (fun _ => 0))))])) H := hP
  have hD : va_D A ((a, .inr (3, [.ref qT, .ref qC, .ref qB, .null, .null, .null, .int 0, .int 0, .int 0, .long 0, .int 0])) :: (X3 ++ [(q4, .inl (C 2, 10, .inr (.inl (fun _ => 0))))])) := hD
  obtain ⟨X4, hX4⟩ : ∃ X : va_W, X = X3 ++ [(q4, .inl (C 2, 10, .inr (.inl (fun _ => 0))))] := ⟨_, rfl⟩
  rw [← hX4] at hP hD
  refine va_putF (D := D) (ci := 3) (v := .ref q4) (ty := .array .long) (C := RX4) (T := TX4) (N := 11) hx hb (Ts := u_ws RX4 TX4 11) (fun w hw => hT.use (cls_ws 3 (by decide) w hw).1 (cls_ws 3 (by decide) w hw).2 _) (fun w hw => hw) tyX4 tyX4_ok nmX4 hown hK hP hD hS 0 rfl rfl 3 (by decide) (tk0 hT (w := .fieldLink RX4 30 RX4 "moveRows" "[J") (by decide +kernel) _) (fun _ h9 => h9) rfl hin rfl (by decide +kernel) rfl rfl (Nat.le_of_ble_eq_true rfl) (show decode cX4_init 42 = .ok (.putfield 30, 3) by decide +kernel) (fun H locs hP hD hS => ?_)
  have hP : va_P D vwCl ((a, .inr (3, [.ref qT, .ref qC, .ref qB, .ref q4, .null, .null, .int 0, .int 0, .int 0, .long 0, .int 0])) :: X4) H := hP
  have hD : va_D A ((a, .inr (3, [.ref qT, .ref qC, .ref qB, .ref q4, .null, .null, .int 0, .int 0, .int 0, .long 0, .int 0])) :: X4) := hD
  refine lv_aload_n hx hb (show decode cX4_init 45 = .ok (.aload_n 0, 1) by decide +kernel) rfl (lv_at hl 0 rfl) ?_
  refine lv_sipush hx hb (show decode cX4_init 46 = .ok (.sipush 1500, 3) by decide +kernel) rfl ?_
  refine nw_newa (ws := (a, .inr (3, [.ref qT, .ref qC, .ref qB, .ref q4, .null, .null, .int 0, .int 0, .int 0, .long 0, .int 0])) :: X4) (N' := 1500) (a0 := (1500, .inl (fun _ => 0))) hx hb (atype := .int) (tk0 hT (by decide +kernel) _) rfl (fun _ h => by cases h) 0 rfl hK hP hD hS hA (fun _ => rfl) (by decide) (by decide) (by decide) (by decide) (by decide) (show decode cX4_init 49 = .ok (.newarray .int, 2) by decide +kernel) (fun q5 H hP hD hS => ?_)
  have hP : va_P D vwCl ((a, .inr (3, [.ref qT, .ref qC, .ref qB, .ref q4, .null, .null, .int 0, .int 0, .int 0, .long 0, .int 0])) :: (X4 ++ [(q5, .inl (C 1, 1500, .inl (fun _ => 0)))])) H := hP
  have hD : va_D A ((a, .inr (3, [.ref qT, .ref qC, .ref qB, .ref q4, .null, .null, .int 0, .int 0, .int 0, .long 0, .int 0])) :: (X4 ++ [(q5, .inl (C 1, 1500, .inl (fun _ => 0)))])) := hD
  obtain ⟨X5, hX5⟩ : ∃ X : va_W, X = X4 ++ [(q5, .inl (C 1, 1500, .inl (fun _ => 0)))] := ⟨_, rfl⟩
  rw [← hX5] at hP hD
  refine va_putF (D := D) (ci := 3) (v := .ref q5) (ty := .array .int) (C := RX4) (T := TX4) (N := 11) hx hb (Ts := u_ws RX4 TX4 11) (fun w hw => hT.use (cls_ws 3 (by decide) w hw).1 (cls_ws 3 (by decide) w hw).2 _) (fun w hw => hw) tyX4 tyX4_ok nmX4 hown hK hP hD hS 0 rfl rfl 4 (by decide) (tk0 hT (w := .fieldLink RX4 34 RX4 "found" "[I") (by decide +kernel) _) (fun _ h9 => h9) rfl hin rfl (by decide +kernel) rfl rfl (Nat.le_of_ble_eq_true rfl) (show decode cX4_init 51 = .ok (.putfield 34, 3) by decide +kernel) (fun H locs hP hD hS => ?_)
  have hP : va_P D vwCl ((a, .inr (3, [.ref qT, .ref qC, .ref qB, .ref q4, .ref q5, .null, .int 0, .int 0, .int 0, .long 0, .int 0])) :: X5) H := hP
  have hD : va_D A ((a, .inr (3, [.ref qT, .ref qC, .ref qB, .ref q4, .ref q5, .null, .int 0, .int 0, .int 0, .long 0, .int 0])) :: X5) := hD
  refine lv_aload_n hx hb (show decode cX4_init 54 = .ok (.aload_n 0, 1) by decide +kernel) rfl (lv_at hl 0 rfl) ?_
  refine lv_bipush hx hb (show decode cX4_init 55 = .ok (.bipush 12, 2) by decide +kernel) rfl ?_
  refine nw_newa (ws := (a, .inr (3, [.ref qT, .ref qC, .ref qB, .ref q4, .ref q5, .null, .int 0, .int 0, .int 0, .long 0, .int 0])) :: X5) (N' := 12) (a0 := (12, .inl (fun _ => 0))) hx hb (atype := .int) (tk0 hT (by decide +kernel) _) rfl (fun _ h => by cases h) 0 rfl hK hP hD hS hA (fun _ => rfl) (by decide) (by decide) (by decide) (by decide) (by decide) (show decode cX4_init 57 = .ok (.newarray .int, 2) by decide +kernel) (fun q6 H hP hD hS => ?_)
  have hP : va_P D vwCl ((a, .inr (3, [.ref qT, .ref qC, .ref qB, .ref q4, .ref q5, .null, .int 0, .int 0, .int 0, .long 0, .int 0])) :: (X5 ++ [(q6, .inl (C 1, 12, .inl (fun _ => 0)))])) H := hP
  have hD : va_D A ((a, .inr (3, [.ref qT, .ref qC, .ref qB, .ref q4, .ref q5, .null, .int 0, .int 0, .int 0, .long 0, .int 0])) :: (X5 ++ [(q6, .inl (C 1, 12, .inl (fun _ => 0)))])) := hD
  obtain ⟨X6, hX6⟩ : ∃ X : va_W, X = X5 ++ [(q6, .inl (C 1, 12, .inl (fun _ => 0)))] := ⟨_, rfl⟩
  rw [← hX6] at hP hD
  refine va_putF (D := D) (ci := 3) (v := .ref q6) (ty := .array .int) (C := RX4) (T := TX4) (N := 11) hx hb (Ts := u_ws RX4 TX4 11) (fun w hw => hT.use (cls_ws 3 (by decide) w hw).1 (cls_ws 3 (by decide) w hw).2 _) (fun w hw => hw) tyX4 tyX4_ok nmX4 hown hK hP hD hS 0 rfl rfl 5 (by decide) (tk0 hT (w := .fieldLink RX4 38 RX4 "classes" "[I") (by decide +kernel) _) (fun _ h9 => h9) rfl hin rfl (by decide +kernel) rfl rfl (Nat.le_of_ble_eq_true rfl) (show decode cX4_init 59 = .ok (.putfield 38, 3) by decide +kernel) (fun H locs hP hD hS => ?_)
  have hP : va_P D vwCl ((a, .inr (3, [.ref qT, .ref qC, .ref qB, .ref q4, .ref q5, .ref q6, .int 0, .int 0, .int 0, .long 0, .int 0])) :: X6) H := hP
  have hD : va_D A ((a, .inr (3, [.ref qT, .ref qC, .ref qB, .ref q4, .ref q5, .ref q6, .int 0, .int 0, .int 0, .long 0, .int 0])) :: X6) := hD
  obtain ⟨F, hF⟩ : ∃ F, F = afX a uT uC uB q4 q5 q6 := ⟨_, rfl⟩
  have hF0 : F 0 0 = a := by rw [hF]; rfl
  have hw : (a, .inr (3, [.ref qT, .ref qC, .ref qB, .ref q4, .ref q5, .ref q6, .int 0, .int 0, .int 0, .long 0, .int 0])) :: X6 = wl (F, D, C, klX) w00 := by
    rw [hF, ← huT, ← huC, ← huB, wl_split, afX_T, afX_C, afX_B, hX6, hX5, hX4, hX3, hX2, hX1]
    simp only [List.append_assoc]
    rfl
  rw [hw] at hP hD
  have hA2 : ∀ x, AE (F, D, C, klX) s.heap.size x → A x := fun x h => by
    rcases h with ⟨q, hq, rfl⟩ | h
    · obtain ⟨q0, -, h2⟩ := wl_pos (E := (F, D, C, klX)) (w := w00) (k := q.1) (i := q.2) hq
      exact hD.2 q0 _ h2
    · exact hA x h
  have hA1 : ∀ x, A x → AE (F, D, C, klX) s.heap.size x := fun x h => by
    rcases hAE x h with ⟨q, _, rfl⟩ | h
    · exact Or.inl ⟨(0, 0), List.mem_cons_self, hF0⟩
    · exact Or.inr h
  have hSX : SF (F, D, C, klX) s s.heap.size s.heap := hSF.to (State.WarmedH.refl s) (fun _ _ _ => rfl) (fun x hx => hAE x (hA2 x hx))
  have FX : MF p (headSpec [.code yX4_init cX4_init 1 none] ({ frames := 16, cells := 66, slots := 9474, locals := 600 } : Room)).room s m c 1 66 9474 (F, D, C, klX) cX4_init gkC oX4 5 0 := ⟨hx, hb, hml, hown, hSX, klX_ek.1, klX_ek.2, oX4_ok, Nat.le_of_ble_eq_true rfl, Nat.le_of_ble_eq_true rfl, Nat.le_of_ble_eq_true rfl, Nat.le_of_ble_eq_true rfl⟩
  have hXK : XK p l e (headSpec [.code yX4_init cX4_init 1 none] ({ frames := 16, cells := 66, slots := 9474, locals := 600 } : Room)).room s m (([.ref a] : List Value).toArray) below meth c (MQ below (XPost D C a s.heap.size) (([.ref a] : List Value).toArray) s 66 9474 (va_A [(a, eX0)] s.heap.size)) 1 66 9474 (F, D, C, klX) (fun _ _ => none) 0 noX := fun _ _ _ _ _ _ _ _ _ _ _ _ _ _ _ _ _ _ h => h.elim
  have hRT : RET p l e (headSpec [.code yX4_init cX4_init 1 none] ({ frames := 16, cells := 66, slots := 9474, locals := 600 } : Room)).room s m (([.ref a] : List Value).toArray) below meth c (MQ below (XPost D C a s.heap.size) (([.ref a] : List Value).toArray) s 66 9474 (va_A [(a, eX0)] s.heap.size)) 66 9474 (F, D, C, klX) cX4_init 0 none (fun r u => r = none ∧ KI u (1, [], idp, [], [])) := by
    refine ⟨fun pc x w n H locs ls hdec hH hn hrI hpo => hrI.elim, fun pc x w n H locs ls hdec hH hn hrI hpo => (by cases hrI), fun pc w n H locs ls hdec hH hn hrI hpo => ?_⟩
    refine W.widen (k := 66) (n := 9474) (by omega) (by omega) ?_
    have hS3 : va_S A s.heap H locs := hH.2.2.mono hA2
    exact W.vret hx hb hr (fun t ht hW => ⟨⟨(F, w), rfl, ⟨hF0, hpo.2⟩, by rw [ht]; exact hH.1, by rw [hAe]; exact hH.2.1.weaken (fun _ _ _ h => hA2 _ h)⟩, by rw [hAe]; exact hS3.F ht⟩) (by rw [hAe]; exact hS3.2.2) hdec
  have hNS : NEWS p l e (headSpec [.code yX4_init cX4_init 1 none] ({ frames := 16, cells := 66, slots := 9474, locals := 600 } : Room)).room s m (([.ref a] : List Value).toArray) below meth c (MQ below (XPost D C a s.heap.size) (([.ref a] : List Value).toArray) s 66 9474 (va_A [(a, eX0)] s.heap.size)) 1 66 9474 (F, D, C, klX) [] 0 noX := fun _ _ _ _ _ _ _ h => by cases h
  obtain ⟨V, hVe⟩ : ∃ V, V = Wx p l e (headSpec [.code yX4_init cX4_init 1 none] ({ frames := 16, cells := 66, slots := 9474, locals := 600 } : Room)).room s m (([.ref a] : List Value).toArray) below meth c (MQ below (XPost D C a s.heap.size) (([.ref a] : List Value).toArray) s 66 9474 (va_A [(a, eX0)] s.heap.size)) 1 66 9474 (F, D, C, klX) := ⟨_, rfl⟩
  have hV : Clo l (F, D, C, klX) none gkC oX4 [] (fun _ _ => none) 5 0 none (fun r u => r = none ∧ KI u (1, [], idp, [], [])) noX pgI V := by
    rw [hVe]
    intro pc x hlk L S w n hst
    exact stp_sound (sc := none) FX hXK hRT hNS trivial (List.all_eq_true.mp pgI_ok _ (lk_mem hlk)) hst
  have hgo : V 62 [some (vR 0)] [] w00 0 := by
    iterate 3 refine hV.go rfl ?_
    refine And.intro (callP_r (c_beginPuzzle (n := 1) (w := w00) (tx := []) (so := []) (po := fun v z => v = none ∧ KI z (1, [], idp, [], [])) ⟨hl0, klX_ek⟩ (by decide) (by decide) tx00 sk00 (fun u a _ => ⟨rfl, a⟩)) (by decide) (by decide) (fun r u hp => ?_)) trivial
    obtain ⟨rfl, hk⟩ := hp
    refine hV.go rfl ?_
    exact ⟨⟨rfl, hk⟩, Nat.le_refl _⟩
  rw [hVe] at hgo
  refine W.widen (k := 66) (n := 9474) (by decide) (by decide) ?_
  exact hgo rfl _ _ ls ⟨hP, ⟨hD.1, fun k q h => hA1 _ (hD.2 k q h)⟩, hS.mono hA1⟩ ⟨hl.1, hl.2.1, fun i v hv => by
    match i, hv with
    | 0, hv =>
      cases hv
      show ls[0]? = some (.val (.ref (F 0 0)))
      rw [hF0]
      exact hl.2.2 (0, .ref a) List.mem_cons_self
    | i + 1, hv => cases hv⟩
