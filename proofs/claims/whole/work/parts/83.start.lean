/-! the law's start: both objects, the one long, then the loop -/
abbrev klL : List (Nat × Nat) := [(0, 0), (1, 0), (7, 0), (8, 0), (9, 0), (2, 0), (13, 0), (14, 0), (14, 1), (14, 2), (14, 3), (14, 4), (14, 5), (14, 6), (14, 7), (14, 8), (14, 9), (14, 10), (14, 11), (15, 0), (16, 0), (16, 1), (16, 2), (16, 3), (16, 4), (16, 5), (16, 6), (16, 7), (16, 8), (16, 9), (16, 10), (16, 11), (17, 0), (18, 0), (18, 1), (18, 2), (18, 3), (18, 4), (18, 5), (18, 6), (18, 7), (18, 8), (18, 9), (18, 10), (18, 11), (19, 0), (20, 0), (20, 1), (20, 2), (20, 3), (20, 4), (20, 5), (20, 6), (20, 7), (20, 8), (20, 9), (20, 10), (20, 11), (21, 0), (22, 0), (3, 0), (10, 0), (11, 0), (12, 0), (4, 0), (5, 0), (6, 0), (30, 0), (31, 0), (32, 0), (33, 0), (34, 0), (35, 0), (36, 0), (37, 0), (38, 0), (39, 0), (40, 0), (41, 0), (42, 0), (43, 0), (50, 0)]
theorem klL_eq : klL = klX ++ (klM ++ [(50, 0)]) := rfl
def afL (uX uM : Nat → Nat → Nat) (q : Nat) : Nat → Nat → Nat := fun k i => match k with | 30 => uM 30 i | 31 => uM 31 i | 32 => uM 32 i | 33 => uM 33 i | 34 => uM 34 i | 35 => uM 35 i | 36 => uM 36 i | 37 => uM 37 i | 38 => uM 38 i | 39 => uM 39 i | 40 => uM 40 i | 41 => uM 41 i | 42 => uM 42 i | 43 => uM 43 i | 50 => q | k => uX k i
def wdL (u : Wd) : Wd := (fun k => match Nat.ble 30 k && Nat.ble k 50 with | true => wM0.1 k | false => u.1 k, fun k => match Nat.ble 30 k && Nat.ble k 50 with | true => wM0.2 k | false => u.2 k)
theorem wl_same2 {A B : Nat → Nat → Nat} {D : va_G} {C : Nat → ClassId} {w v : Wd} {kl kl' : List (Nat × Nat)} (ks : List (Nat × Nat)) (hk : kl' = ks) (h : ∀ q ∈ ks, A q.1 q.2 = B q.1 q.2 ∧ wcell (A, D, C, kl) w q.1 q.2 = wcell (B, D, C, kl') v q.1 q.2) : ks.map (fun q => (A q.1 q.2, wcell (A, D, C, kl) w q.1 q.2)) = wl (B, D, C, kl') v := by
  subst hk
  unfold wl
  refine List.map_congr_left (fun q hq => ?_)
  show (A q.1 q.2, wcell (A, D, C, kl) w q.1 q.2) = (B q.1 q.2, wcell (B, D, C, kl') v q.1 q.2)
  rw [(h q hq).1, (h q hq).2]
set_option maxRecDepth 100000 in
set_option maxHeartbeats 4000000 in
theorem afL_X (uX uM : Nat → Nat → Nat) (q9 : Nat) (D : va_G) (C : Nat → ClassId) (u : Wd) : klX.map (fun q => (afL uX uM q9 q.1 q.2, wcell (afL uX uM q9, D, C, klL) (wdL u) q.1 q.2)) = wl (uX, D, C, klX) u := by
  refine wl_same2 klX rfl (fun q hq => ?_)
  simp only [List.mem_cons, List.not_mem_nil, or_false] at hq
  rcases hq with rfl | rfl | rfl | rfl | rfl | rfl | rfl | rfl | rfl | rfl | rfl | rfl | rfl | rfl | rfl | rfl | rfl | rfl | rfl | rfl | rfl | rfl | rfl | rfl | rfl | rfl | rfl | rfl | rfl | rfl | rfl | rfl | rfl | rfl | rfl | rfl | rfl | rfl | rfl | rfl | rfl | rfl | rfl | rfl | rfl | rfl | rfl | rfl | rfl | rfl | rfl | rfl | rfl | rfl | rfl | rfl | rfl | rfl | rfl | rfl | rfl | rfl | rfl | rfl | rfl | rfl | rfl <;> exact ⟨rfl, rfl⟩
set_option maxRecDepth 100000 in
set_option maxHeartbeats 4000000 in
theorem afL_M (uX uM : Nat → Nat → Nat) (q9 : Nat) (D : va_G) (C : Nat → ClassId) (u : Wd) : klM.map (fun q => (afL uX uM q9 q.1 q.2, wcell (afL uX uM q9, D, C, klL) (wdL u) q.1 q.2)) = wl (uM, D, C, klM) wM0 := by
  refine wl_same2 klM rfl (fun q hq => ?_)
  simp only [List.mem_cons, List.not_mem_nil, or_false] at hq
  rcases hq with rfl | rfl | rfl | rfl | rfl | rfl | rfl | rfl | rfl | rfl | rfl | rfl | rfl | rfl <;> exact ⟨rfl, rfl⟩
theorem afL_all (uX uM : Nat → Nat → Nat) (q9 : Nat) (D : va_G) (C : Nat → ClassId) (u : Wd) : wl (afL uX uM q9, D, C, klL) (wdL u) = (wl (uX, D, C, klX) u ++ wl (uM, D, C, klM) wM0) ++ [(q9, .inl (C 2, 1, .inr (.inl (fun _ => 0))))] := by
  rw [← afL_X uX uM q9 D C u, ← afL_M uX uM q9 D C u, List.append_assoc]
  show List.map _ klL = _
  rw [klL_eq, List.map_append, List.map_append]
  rfl
theorem klL_ek {A : Nat → Nat → Nat} {D : va_G} {C : Nat → ClassId} : EK (A, D, C, klL) gkL := by
  refine ⟨(by decide +kernel : klL.Nodup), fun k i hk hi => ?_⟩
  have hk : k < 51 := Nat.le_of_ble_eq_true hk
  have h : ∀ k, k < 51 → ∀ i, i < cnt k → (k, i) ∈ klL := by decide +kernel
  exact h k hk i hi
theorem wdL_K {u : Wd} {A : AS} (h : KI u A) : KI (wdL u) A := by
  refine h.fr (ks := (List.range 21).map (fun i => 30 + i)) (fun k hk => ?_) (by decide)
  have hf : (Nat.ble 30 k && Nat.ble k 50) = false := by
    rw [Bool.eq_false_iff]
    intro h
    rw [Bool.and_eq_true, Nat.ble_eq, Nat.ble_eq] at h
    exact hk (List.mem_map.mpr ⟨k - 30, List.mem_range.mpr (by omega), by omega⟩)
  constructor
  · show (match Nat.ble 30 k && Nat.ble k 50 with | true => wM0.1 k | false => u.1 k) = u.1 k
    rw [hf]
  · show (match Nat.ble 30 k && Nat.ble k 50 with | true => wM0.2 k | false => u.2 k) = u.2 k
    rw [hf]
theorem wdL_Q (u : Wd) : QI (wdL u) (1, [], idp, [], []) := by
  unfold QI MN MX MS MR
  refine ⟨⟨by decide, ⟨by decide, fun t h => (by cases h)⟩, Lw.id 1, rfl, rfl, fun i t h => (by cases h), fun s hs => ?_⟩, ⟨rfl, by decide, fun i c h => (by cases h)⟩, ⟨by decide, rfl, fun i m h => (by cases h)⟩, Or.inl rfl⟩
  have e : s = 0 := by
    have hs : s < 1 := hs
    omega
  subst e
  rfl
section
variable {p : Program} {l : Launch} {e : Env} {R : Room} {s : State} {m : MethodId} {args : Array Value} {below : List Frame} {meth : Method} {c : Code} {H H0 : Heap} {locs : List Loc} {cells slots : Nat} {Q : State → Prop}
variable {pc : Nat} {ls : Array Slot} {rest st0 : List Value} {D : va_G} {C : Nat → ClassId} {A : Nat → Prop} {ws : va_W} {q : Nat}
theorem nw_afterX {mc ms : Nat} {a : Array Value} (hr : va_Run p l e R s m args below meth c H locs cells slots mc ms (F0 m pc ls st0) rest (XPost D C q H.size a) (va_A [(q, eX0)] H.size)) (hP : va_P D vwCl (ws ++ [(q, eX0)]) H) (hD : va_D A (ws ++ [(q, eX0)])) (hS : va_S A H0 H locs) (hA : ∀ x, H0.size ≤ x → A x)
    (kk : ∀ (u : Nat → Nat → Nat) (w : Wd) (H1 : Heap) (locs1 : List Loc), u 0 0 = q → KI w (1, [], idp, [], []) → va_P D vwCl (ws ++ wl (u, D, C, klX) w) H1 → va_D A (ws ++ wl (u, D, C, klX) w) → va_S A H0 H1 locs1 → W p l e R s m args below meth c H1 locs1 (cells + mc) (slots + ms) Q (F0 m (pc + 3) ls rest)) : W p l e R s m args below meth c H locs cells slots Q (F0 m pc ls st0) := by
  have hF : ∀ x, va_A [(q, eX0)] H.size x → A x := va_free hD hS hA [ws.length] end_C
  refine va_callv hr hS (fun x _ h => hF x h) hF (fun u t H1 locs1 ht hvm h0 hB hz hk hS1 => ?_)
  obtain ⟨hP1, hD1⟩ := hB
  rw [ht] at hP1
  obtain ⟨hP2, hD2⟩ := va_join (wr := ws) hP hD [ws.length] (List.range ws.length) end_C end_R (va_nd_of _ List.nodup_range) (fun i hi h => by
    rw [List.mem_range] at hi
    rw [List.mem_singleton] at h
    omega) hk hF hP1 hD1
  exact kk u.1 u.2 H1 locs1 h0.1 h0.2 hP2 hD2 hS1
end
set_option maxHeartbeats 8000000 in
set_option maxRecDepth 100000 in
theorem whole_start {p : Program} {e : Env} {s : State} {m : MethodId} {below : List Frame} {meth : Method} {c : Code} (l : Launch) (hl0 : l.stackTraces = false) {b L : Nat} {xs : Nat → Int32} (hL : L ≤ 192) (C0 : lw_At p s m meth c b L xs) : W p l e room_1 s m #[Value.ref b] below meth c s.heap [] 0 0 (lw_Z below #[Value.ref b] s) (entryFrame m ([Value.ref b] : List Value).toArray 8) := by
  obtain ⟨hx, hb, hr, hml, hown, hts, hX, hbl, hlocks, hg⟩ := C0
  obtain ⟨D, C, hSF⟩ := st_facts hts hg
  have hAO := st_ao hts
  have hNW := st_nw hts
  have hT := hSF.2.1
  have hK := hSF.1
  obtain ⟨A, hAe⟩ : ∃ A : Nat → Prop, A = fun x => s.heap.size ≤ x := ⟨_, rfl⟩
  have hA : ∀ x : Nat, s.heap.size ≤ x → A x := fun x h => by rw [hAe]; exact h
  have hAi : ∀ x : Nat, A x → s.heap.size ≤ x := fun x h => by rw [hAe] at h; exact h
  have hAE : ∀ x, A x → AE (fun _ _ => 0, D, C, []) s.heap.size x := fun x h => Or.inr (hAi x h)
  have hS : va_S A s.heap s.heap [] := va_S.rf
  have hP : va_P D vwCl [] s.heap := fun k q h => by cases h
  have hD : va_D A [] := ⟨fun i j p q h => (by cases h), fun k q h => (by cases h)⟩
  have hl := lv_entry ([.ref b]) (n := 8) (Nat.le_of_ble_eq_true rfl)
  rw [lg_entry_eq]
  generalize (lg_sl ([.ref b]) ++ List.replicate (8 - (lg_sl ([.ref b])).length) Slot.unset).toArray = ls at hl ⊢
  have hl : lv_has ls 8 [(0, .ref b)] := hl
  refine va_new (ws := []) (ci := 3) (fs := [.null, .null, .null, .null, .null, .null, .int 0, .int 0, .int 0, .long 0, .int 0]) (C := RX4) (T := TX4) (N := 11) hx hb (Ts := u_ws RX4 TX4 11) (fun w hw => hT.use (cls_ws 3 (by decide) w hw).1 (cls_ws 3 (by decide) w hw).2 _) (fun w hw => hw) tyX4 tyX4_ok hown (tk0 hT (w := .classLink RL 8 RX4) (by decide +kernel) _) (tk0 hT (w := .instantiable RX4 11) (by decide +kernel) _) (tk0 hT (w := .initialized RX4) (by decide +kernel) _) hK hP hD hS hA rfl (fun j hj => by match j, hj with | 0, _ => rfl | 1, _ => rfl | 2, _ => rfl | 3, _ => rfl | 4, _ => rfl | 5, _ => rfl | 6, _ => rfl | 7, _ => rfl | 8, _ => rfl | 9, _ => rfl | 10, _ => rfl) (by decide) (by decide) (show decode code 0 = .ok (.new 8, 3) by decide +kernel) (fun qX H hP hD hS => ?_)
  refine lv_dup hx hb (show decode code 3 = .ok (.dup, 1) by decide +kernel) rfl ?_
  have hp := cpre_of (ws := []) (q := qX) (e0 := eX0) hSF hAO hP hD hS hAE
  refine nw_afterX (ws := []) (va_runI (As := []) (rest := [.ref qX]) (Ts := []) (own := RL) (bytes := cX4_init) (maxL := 1) (n := 0) ⟨hx, hb, hml, hown, fun _ h => by cases h⟩ (k_X4 l hl0 D C qX H.size) ⟨⟨rfl, rfl, Nat.le_of_ble_eq_true rfl, Nat.le_of_ble_eq_true rfl, fun w hw a' U hW => by rw [List.mem_singleton] at hw; rw [hw]; exact tk0 (hT.moved hW) (w := .code yX4_init cX4_init 1 none) (by decide +kernel) _, List.mem_cons_self, tk0 hT (w := .code yX4_init cX4_init 1 none) (by decide +kernel) _, tk0 hT (w := .initialized RX4) (by decide +kernel) _, ⟨by decide, by decide⟩, desc_len (by decide +kernel), tk0 hT (w := .methodLink RL 72 yX4_init) (by decide +kernel) _⟩, rfl, tk0 hT (w := .instanceMethod yX4_init) (by decide +kernel) _⟩ ⟨XPre.blind, fun U hU hW => ⟨rfl, hp U hU hW, hNW.moved hW⟩⟩ rfl rfl hl.1 rfl (lv_room (Nat.le_of_ble_eq_true rfl)) (show decode code 4 = .ok (.invokespecial 72, 3) by decide +kernel) ⟨by decide, by decide⟩) hP hD hS hA (fun uX wX H locs huX hKI hP hD hS => ?_)
  have hP : va_P D vwCl (wl (uX, D, C, klX) wX) H := hP
  have hD : va_D A (wl (uX, D, C, klX) wX) := hD
  refine lv_astore_n hx hb (i := 1) (show decode code 7 = .ok (.astore_n 1, 1) by decide +kernel) rfl hl (by decide) rfl (fun ls hl => ?_)
  have hl : lv_has ls 8 [(1, .ref qX), (0, .ref b)] := hl
  refine va_new (ws := wl (uX, D, C, klX) wX) (ci := 4) (fs := [.int 0, .int 0, .int 0, .null, .null, .int 0, .null, .int 0, .null, .null, .null, .null, .null, .int 0, .null, .null, .int 0, .null, .null, .null]) (C := RX5) (T := TX5) (N := 20) hx hb (Ts := u_ws RX5 TX5 20) (fun w hw => hT.use (cls_ws 4 (by decide) w hw).1 (cls_ws 4 (by decide) w hw).2 _) (fun w hw => hw) tyX5 tyX5_ok hown (tk0 hT (w := .classLink RL 73 RX5) (by decide +kernel) _) (tk0 hT (w := .instantiable RX5 20) (by decide +kernel) _) (tk0 hT (w := .initialized RX5) (by decide +kernel) _) hK hP hD hS hA rfl (fun j hj => by match j, hj with | 0, _ => rfl | 1, _ => rfl | 2, _ => rfl | 3, _ => rfl | 4, _ => rfl | 5, _ => rfl | 6, _ => rfl | 7, _ => rfl | 8, _ => rfl | 9, _ => rfl | 10, _ => rfl | 11, _ => rfl | 12, _ => rfl | 13, _ => rfl | 14, _ => rfl | 15, _ => rfl | 16, _ => rfl | 17, _ => rfl | 18, _ => rfl | 19, _ => rfl | j + 20, hj => omega) (by decide) (by decide) (show decode code 8 = .ok (.new 73, 3) by decide +kernel) (fun qM H hP hD hS => ?_)
  refine lv_dup hx hb (show decode code 11 = .ok (.dup, 1) by decide +kernel) rfl ?_
  have hp := cpre_of (ws := wl (uX, D, C, klX) wX) (q := qM) (e0 := eM0) hSF hAO hP hD hS hAE
  refine nw_after (ws := wl (uX, D, C, klX) wX) (va_runI (As := []) (rest := [.ref qM]) (Ts := []) (own := RL) (bytes := cX5_init) (maxL := 1) (n := 0) ⟨hx, hb, hml, hown, fun _ h => by cases h⟩ (k_X5 l D C qM H.size) ⟨⟨rfl, rfl, Nat.le_of_ble_eq_true rfl, Nat.le_of_ble_eq_true rfl, fun w hw a' U hW => by rw [List.mem_singleton] at hw; rw [hw]; exact tk0 (hT.moved hW) (w := .code yX5_init cX5_init 1 none) (by decide +kernel) _, List.mem_cons_self, tk0 hT (w := .code yX5_init cX5_init 1 none) (by decide +kernel) _, tk0 hT (w := .initialized RX5) (by decide +kernel) _, ⟨by decide, by decide⟩, desc_len (by decide +kernel), tk0 hT (w := .methodLink RL 75 yX5_init) (by decide +kernel) _⟩, rfl, tk0 hT (w := .instanceMethod yX5_init) (by decide +kernel) _⟩ ⟨CPre.blind, fun U hU hW => ⟨rfl, hp U hU hW⟩⟩ rfl rfl hl.1 rfl (lv_room (Nat.le_of_ble_eq_true rfl)) (show decode code 12 = .ok (.invokespecial 75, 3) by decide +kernel) ⟨by decide, by decide⟩) hP hD hS hA (fun uM H locs huM hP hD hS => ?_)
  refine lv_astore_n hx hb (i := 2) (show decode code 15 = .ok (.astore_n 2, 1) by decide +kernel) rfl hl (by decide) rfl (fun ls hl => ?_)
  have hl : lv_has ls 8 [(2, .ref qM), (1, .ref qX), (0, .ref b)] := hl
  refine lv_iconst hx hb (show decode code 16 = .ok (.iconst 1, 1) by decide +kernel) rfl ?_
  refine nw_newa (ws := wl (uX, D, C, klX) wX ++ wl (uM, D, C, klM) wM0) (N' := 1) (a0 := (1, .inr (.inl (fun _ => 0)))) hx hb (atype := .long) (tk0 hT (by decide +kernel) _) rfl (fun _ h => by cases h) 1 rfl hK hP hD hS hA (fun _ => rfl) (by decide) (by decide) (by decide) (by decide) (by decide) (show decode code 17 = .ok (.newarray .long, 2) by decide +kernel) (fun qO H hP hD hS => ?_)
  refine lv_astore_n hx hb (i := 3) (show decode code 19 = .ok (.astore_n 3, 1) by decide +kernel) rfl hl (by decide) rfl (fun ls hl => ?_)
  have hl : lv_has ls 8 [(3, .ref qO), (2, .ref qM), (1, .ref qX), (0, .ref b)] := hl
  have hP : va_P D vwCl ((wl (uX, D, C, klX) wX ++ wl (uM, D, C, klM) wM0) ++ [(qO, .inl (C 2, 1, .inr (.inl (fun _ => 0))))]) H := hP
  have hD : va_D A ((wl (uX, D, C, klX) wX ++ wl (uM, D, C, klM) wM0) ++ [(qO, .inl (C 2, 1, .inr (.inl (fun _ => 0))))]) := hD
  rw [← afL_all uX uM qO D C wX] at hP hD
  obtain ⟨F, hF⟩ : ∃ F, F = afL uX uM qO := ⟨_, rfl⟩
  have hF0 : F 0 0 = qX := by rw [hF]; exact huX
  have hF30 : F 30 0 = qM := by rw [hF]; exact huM
  have hF50 : F 50 0 = qO := by rw [hF]; rfl
  rw [← hF] at hP hD
  have hA2 : ∀ x, AE (F, D, C, klL) s.heap.size x → s.heap.size ≤ x := fun x h => by
    rcases h with ⟨q, hq, rfl⟩ | h
    · obtain ⟨q0, -, h2⟩ := wl_pos (E := (F, D, C, klL)) (w := wdL wX) (k := q.1) (i := q.2) hq
      exact hAi _ (hD.2 q0 _ h2)
    · exact h
  have hA1 : ∀ x, A x → AE (F, D, C, klL) s.heap.size x := fun x h => Or.inr (hAi x h)
  have hSX : SF (F, D, C, klL) s s.heap.size s.heap := hSF.to (State.WarmedH.refl s) (fun _ _ _ => rfl) (fun x hx => Or.inr (hA2 x hx))
  have FX : MF p room_1 s m c 8 82 16130 (F, D, C, klL) code gkL oL 41 200 := ⟨hx, hb, hml, hown, hSX, klL_ek.1, klL_ek.2, oL_ok, Nat.le_of_ble_eq_true rfl, Nat.le_of_ble_eq_true rfl, Nat.le_of_ble_eq_true rfl, Nat.le_of_ble_eq_true rfl⟩
  have hXK : XK p l e room_1 s m #[Value.ref b] below meth c (lw_Z below #[Value.ref b] s) 8 82 16130 (F, D, C, klL) (fun _ _ => none) 200 noX := fun _ _ _ _ _ _ _ _ _ _ _ _ _ _ _ _ _ _ h => h.elim
  have hRT : RET p l e room_1 s m #[Value.ref b] below meth c (lw_Z below #[Value.ref b] s) 82 16130 (F, D, C, klL) code 200 (some .boolean) (fun r _ => r = some (vI 1)) := by
    refine ⟨fun pc x w n H locs ls hdec hH hn hrI hpo => ?_, fun pc x w n H locs ls hdec hH hn hrI hpo => (by cases hrI), fun pc w n H locs ls hdec hH hn hrI hpo => (by cases hrI)⟩
    have hx1 : x = 1 := by cases hpo; rfl
    rw [hx1]
    refine va_forget (fun q hq => hA2 _ (hH.2.2.2.2 q hq)) ?_
    exact W.widen (k := 600096) (n := 7301386) (by omega) (by omega) (lw_ret hx hb hr hlocks hdec)
  have hNS : NEWS p l e room_1 s m #[Value.ref b] below meth c (lw_Z below #[Value.ref b] s) 8 82 16130 (F, D, C, klL) [] 200 noX := fun _ _ _ _ _ _ _ h => by cases h
  have hSC : SCR s (F, D, C, klL) (some (b, L, xs)) := ⟨hX, hbl, fun h => Nat.not_le_of_lt hbl (hA2 b h), Nat.lt_of_le_of_lt hL (by decide)⟩
  obtain ⟨V, hVe⟩ : ∃ V, V = Wx p l e room_1 s m #[Value.ref b] below meth c (lw_Z below #[Value.ref b] s) 8 82 16130 (F, D, C, klL) := ⟨_, rfl⟩
  have hV : ∀ q ∈ qAll, CLw l (F, D, C, klL) b L xs 200 q V := by
    rw [hVe]
    intro q hq pc x hlk L S w n hst
    exact stp_sound FX hXK hRT hNS hSC (List.all_eq_true.mp (qAll_ok q hq) _ (lk_mem hlk)) hst
  have hgo := law_all (w := wdL wX) (A := (1, [], idp, [], [])) ⟨hl0, klL_ek⟩ hL hV (wdL_K hKI) (wdL_Q wX)
  rw [hVe] at hgo
  refine W.widen (k := 82) (n := 16130) (by decide) (by decide) ?_
  refine hgo rfl _ _ ls ⟨hP, ⟨hD.1, fun k q h => hA1 _ (hD.2 k q h)⟩, hS.mono hA1⟩ ⟨hl.1, hl.2.1, fun i v hv => ?_⟩
  match i, hv with
  | 0, hv =>
    cases hv
    exact hl.2.2 (0, .ref b) (by simp)
  | 1, hv =>
    cases hv
    show ls[1]? = some (.val (.ref (F 0 0)))
    rw [hF0]
    exact hl.2.2 (1, .ref qX) (by simp)
  | 2, hv =>
    cases hv
    show ls[2]? = some (.val (.ref (F 30 0)))
    rw [hF30]
    exact hl.2.2 (2, .ref qM) (by simp)
  | 3, hv =>
    cases hv
    show ls[3]? = some (.val (.ref (F 50 0)))
    rw [hF50]
    exact hl.2.2 (3, .ref qO) (by simp)
  | 4, hv => cases hv
  | 5, hv => cases hv
  | 6, hv => cases hv
  | 7, hv => cases hv
  | i + 8, hv => cases hv
