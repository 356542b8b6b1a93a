/-! calls, and all instructions together -/
section
variable {p : Program} {l : Launch} {e : Env} {R : Room} {s : State} {m : MethodId} {args : Array Value} {below : List Frame} {meth : Method} {c : Code} {Q : State → Prop} {nL c0 s0 : Nat} {E : En}
variable {cc : ByteArray} {gk : Nat → Bool} {o : OT} {D B : Nat} {pc n0 : Nat} {L : List (Option AV)} {S : List AV} {w : Wd}
theorem m_call {H : Heap} {locs : List Loc} {cells slots mc ms : Nat} {ls : Array Slot} {st0 rest : List Value} {a : Array Value} {po : Option AV → Wd → Prop} {xo : String → Wd → Prop}
    (hr : vx_Run p l e R s m args below meth c H locs cells slots mc ms (F0 m pc ls st0) rest (Qx E po H.size a) (Xx E xo H.size) (AE E H.size)) (hS : va_S (AE E s.heap.size) s.heap H locs)
    (kx : ∀ (X : String) (ce : Cell) (q9 : Addr) (u : Wd) (H1 : Heap) (locs1 : List Loc), xo X u → va_P (eD E) vwCl (wl E u) H1 → va_S (AE E s.heap.size) s.heap H1 locs1 → H1[q9]? = some ce → ce.vm = .none → s.vm.findClass X = some ce.cls → vx_W p l e R s m args below meth c H1 locs1 (cells + mc) (slots + ms) Q (F0 m pc ls rest) q9)
    (kk : ∀ (r : Option AV) (u : Wd) (H1 : Heap) (locs1 : List Loc), po r u → va_P (eD E) vwCl (wl E u) H1 → va_S (AE E s.heap.size) s.heap H1 locs1 → W p l e R s m args below meth c H1 locs1 (cells + mc) (slots + ms) Q (F0 m (pc + 3) ls ((r.map (cv E)).toList ++ rest))) :
    W p l e R s m args below meth c H locs cells slots Q (F0 m pc ls st0) := by
  have hA : ∀ q, q < H.size → AE E H.size q → AE E s.heap.size q := fun q _ h => AE.mono hS.1 h
  have hf : ∀ q, AE E H.size q → AE E s.heap.size q := fun q h => AE.mono hS.1 h
  intro T hT X
  rcases hr T hT X with ⟨v, st₀, t, T', L, h0, X', hL, e1, e2, ⟨⟨r, u, hv, hp, hb⟩, hF⟩, st⟩ | ⟨q, st₀, t, T', L, E', ce, h0, X', hL, e1, e2, ⟨u, hp, hb, hF⟩, hce, hcv, hcl, st⟩
  · cases hv
    obtain ⟨k1, k2, k3⟩ := vx_keep h0 e1 hS hA hf hL hF
    obtain ⟨t2, a1, b1⟩ := kk r u T'.heap (locs ++ L) hp (by rw [e1]; exact hb) k3 T' rfl X'
    exact ⟨t2, st t2 a1, b1⟩
  · obtain ⟨k1, k2, k3⟩ := vx_keep h0 e1 hS hA hf hL hF
    obtain ⟨t2, a1, b1⟩ := kx E' ce q u T'.heap (locs ++ L) hp (by rw [e1]; exact hb) k3 (by rw [e1]; exact hce) hcv hcl T' rfl X'
    exact ⟨t2, st.trans a1, b1⟩
theorem HW.blind {As : List AV} {sz : Nat} : FrameBlind (va_Pc (As.map (cv E)) (fun U => U.heap.size = sz ∧ HW E w U)) := by
  intro a U g mk ⟨h1, h2, h3, h4, h5⟩
  exact ⟨h1, h2, h3, h4, h5.moved (U := U.calling g mk a) (State.WarmedH.refl U) (Nat.le_refl _) (fun _ _ _ => rfl)⟩
theorem HW.pre {H : Heap} {locs : List Loc} (hSF : SF E s s.heap.size s.heap) (hH : HS s E w H locs) (As : List AV) (U : State) (hU : U.heap = H) (hW : s.WarmedH U.vm) : va_Pc (As.map (cv E)) (fun U => U.heap.size = H.size ∧ HW E w U) (As.map (cv E)).toArray U := by
  refine ⟨rfl, by rw [hU], by rw [hU]; exact hH.1, hH.2.1.weaken (fun _ _ _ _ => trivial), ?_⟩
  rw [hU]
  exact hSF.moved hW hH.2.2.1 hH.2.2.2.1
/-- what becomes of an exception that a call at pc leaves -/
def XK (p : Program) (l : Launch) (e : Env) (R : Room) (s : State) (m : MethodId) (args : Array Value) (below : List Frame) (meth : Method) (c : Code) (Q : State → Prop) (nL c0 s0 : Nat) (E : En) (hd : Nat → String → Option Nat) (B : Nat) (xp : String → Wd → Prop) : Prop :=
  ∀ (pc : Nat) (X : String) (u : Wd) (n : Nat) (H1 : Heap) (locs1 : List Loc) (L : List (Option AV)) (ls : Array Slot) (rest : List Value) (ce : Cell) (q9 : Addr), n ≤ B → L.length = nL → LR E nL ls L → HS s E u H1 locs1 → H1[q9]? = some ce → ce.vm = .none → s.vm.findClass X = some ce.cls →
    (match hd pc X with
      | some h => ∀ q : Nat, Wx p l e R s m args below meth c Q nL c0 s0 E h L [vO q] u n
      | none => xp X u) → vx_W p l e R s m args below meth c H1 locs1 (c0 + n) (s0 + 6 * n) Q (F0 m pc ls rest) q9
theorem wsOf_use {mi : MI} (hT : TBL s) (h : ∀ w ∈ wsOf mi, inT w) : ∀ w ∈ wsOf mi, ∀ (a' : Array Value) (U : State), s.WarmedH U.vm → w.before a' U = true := fun w hw a' U hW => inT_use (hT.moved hW) (h w hw) a'
theorem desc_len {y : MethodName} {n : Nat} (h : (parseMethodDescriptor y.desc).map (fun d => d.parameters.length) = some n) : ∀ sig, parseMethodDescriptor y.desc = some sig → n = sig.parameters.length := fun sig hs => by
  rw [hs] at h
  exact (Option.some.inj h).symm
theorem m_callS {idx : Nat} {hd : Nat → String → Option Nat} {xp : String → Wd → Prop} (F : MF p R s m c nL c0 s0 E cc gk o D B) (hX : XK p l e R s m args below meth c Q nL c0 s0 E hd B xp) (hdec : decode cc pc = .ok (.invokestatic idx, 3)) {mi : MI} (hlk : lk o.2.2.2.2 idx = some mi) (h99 : mi.2.2.2.2.2.1 = 99) {As r : List AV} (hpop : popA mi.2.2.2.2.1 [] S = some (As, r)) (hcat : catS r ≤ 8)
    (h : callP l E D B mi As w n0 (fun v u k => Wx p l e R s m args below meth c Q nL c0 s0 E (pc + 3) L (v.toList ++ r) u k) (fun X u k => match hd pc X with
          | some h => ∀ q : Nat, Wx p l e R s m args below meth c Q nL c0 s0 E h L [vO q] u k
          | none => xp X u)) : Wx p l e R s m args below meth c Q nL c0 s0 E pc L S w n0 := by
  obtain ⟨hx, hb, hml, hown, hSF, hok, hI, ho, hR1, hR2, hR3, hR4⟩ := F
  obtain ⟨d, b, po, xo, hd1, hb1, hC, hk, hxk⟩ := h
  intro hl H locs ls hH hL
  obtain ⟨P, hP1, hP2, hP3⟩ := popA_spec _ _ _ _ _ hpop
  rw [List.append_nil] at hP1
  subst hP1
  have hM := hC H.size
  obtain ⟨hwm, hmi⟩ := ho.mi (lk_mem hlk)
  unfold miB at hmi
  simp only [Bool.and_eq_true, decide_eq_true_eq] at hmi
  obtain ⟨⟨⟨w4, w5⟩, w6⟩, w7⟩ := hmi
  have w1 : inT (.methodLink o.1 idx mi.1) := hwm _ (by simp [miW])
  have w2 : inT (.initialized mi.1.cls) := hwm _ (by simp [miW])
  have w3 : ∀ w ∈ wsOf mi, inT w := fun w hw => hwm w (by unfold miW; exact List.mem_append_left _ (List.mem_append_right _ hw))
  have w7 : inT (.static mi.1) := hwm _ (by unfold miW; refine List.mem_append_right _ ?_; rw [if_pos h99]; exact List.mem_cons_self)
  have hS0 : S.map (cv E) = (As.map (cv E)).reverse ++ r.map (cv E) := by rw [hP2, List.map_append, List.map_reverse]
  have hroom : 2 * (F0 m pc ls (S.map (cv E))).monitorRoom + ((r.map (cv E)).map fun v => v.category).sum ≤ 8 := lv_room (by rw [catS_sum]; exact hcat)
  have hr : vx_Run p l e R s m args below meth c H locs (c0 + n0) (s0 + 6 * n0) b (6 * b) (F0 m pc ls (S.map (cv E))) (r.map (cv E)) (Qx E po H.size (As.map (cv E)).toArray) (Xx E xo H.size) (AE E H.size) := by
    have hws := wsOf_use (mi := mi) hSF.2.1 w3
    have hPre : PreS s H (va_Pc (As.map (cv E)) (fun U => U.heap.size = H.size ∧ HW E w U)) (As.map (cv E)) := ⟨HW.blind, fun U hU hW => HW.pre hSF hH As U hU hW⟩
    have hlen : (As.map (cv E)).length = mi.2.2.2.2.1 := by rw [List.length_map]; exact hP3
    have hfit : (c0 + n0) + b ≤ R.cells ∧ (s0 + 6 * n0) + 6 * b ≤ R.slots := ⟨by omega, by omega⟩
    have hrm : (rmo d b).frames + 1 ≤ R.frames ∧ 8 + (mi.2.2.1 + 11) + (rmo d b).locals ≤ R.locals := ⟨by show d + 8 + 1 ≤ _; omega, by show 8 + (mi.2.2.1 + 11) + (64 * d + 128) ≤ _; omega⟩
    cases hhh : mi.2.2.2.2.2.2 with
    | nil =>
      have hw : wsOf mi = [.code mi.1 mi.2.1 mi.2.2.1 mi.2.2.2.1] := by unfold wsOf; rw [hhh]
      have hcw : Cond.code mi.1 mi.2.1 mi.2.2.1 mi.2.2.2.1 ∈ wsOf mi := by rw [hw]; exact List.mem_cons_self
      exact vx_runS (Ts := []) (own := o.1) (bytes := mi.2.1) (maxL := mi.2.2.1) (ret := mi.2.2.2.1) (index := idx) ⟨hx, hb, hml, hown, fun _ z => nomatch z⟩ hM
        ⟨⟨rfl, rfl, hrm.1, hrm.2, hws, hcw, hws _ hcw args s (State.WarmedH.refl s), inT_use hSF.2.1 w2 args, w4, desc_len w5, inT_use hSF.2.1 w1 args⟩, inT_use hSF.2.1 w7 args⟩ hPre rfl hlen hL.1 hS0 hroom hdec hfit
    | cons q qs =>
      have hw : wsOf mi = [.codeWith mi.1 mi.2.1 mi.2.2.1 mi.2.2.2.1 (q :: qs)] := by unfold wsOf; rw [hhh]
      have hcw : Cond.codeWith mi.1 mi.2.1 mi.2.2.1 mi.2.2.2.1 (q :: qs) ∈ wsOf mi := by rw [hw]; exact List.mem_cons_self
      exact vx_runSX (Ts := []) (own := o.1) (bytes := mi.2.1) (maxL := mi.2.2.1) (ret := mi.2.2.2.1) (index := idx) (hh := q :: qs) ⟨hx, hb, hml, hown, fun _ z => nomatch z⟩ hM
        ⟨⟨rfl, rfl, hrm.1, hrm.2, hws, hcw⟩, hws _ hcw args s (State.WarmedH.refl s), inT_use hSF.2.1 w2 args, w4, desc_len w5, inT_use hSF.2.1 w1 args, inT_use hSF.2.1 w7 args⟩ hPre rfl hlen hL.1 hS0 hroom hdec hfit
  refine m_call hr hH.2.2 (fun X ce q9 u H1 locs1 hxo hP hS hce hcv hcl => ?_) (fun v u H1 locs1 hpo hP hS => ?_)
  · have := hX pc X u (n0 + b) H1 locs1 L ls (r.map (cv E)) ce q9 hb1 hl hL ⟨hP, wl_D hH.2.1, hS⟩ hce hcv hcl (hxk X u hxo)
    rwa [show c0 + n0 + b = c0 + (n0 + b) by omega, show s0 + 6 * n0 + 6 * b = s0 + 6 * (n0 + b) by omega]
  · have := hk v u hpo hl H1 locs1 ls ⟨hP, wl_D hH.2.1, hS⟩ hL
    rw [show c0 + n0 + b = c0 + (n0 + b) by omega, show s0 + 6 * n0 + 6 * b = s0 + 6 * (n0 + b) by omega]
    rw [List.map_append] at this
    cases v <;> exact this
theorem m_callV {idx : Nat} {hd : Nat → String → Option Nat} {xp : String → Wd → Prop} (F : MF p R s m c nL c0 s0 E cc gk o D B) (hX : XK p l e R s m args below meth c Q nL c0 s0 E hd B xp) (hdec : decode cc pc = .ok (.invokevirtual idx, 3)) {mi : MI} (hlk : lk o.2.2.2.2 idx = some mi) {k cl b0 : Nat} (hg : gk k = true) (hs : shp k = (0, cl, b0)) (hcl : mi.2.2.2.2.2.1 = cl) {As r : List AV} (hpop : popA (mi.2.2.2.2.1 + 1) [] S = some (vR k :: As, r)) (hcat : catS r ≤ 8)
    (h : callP l E D B mi (vR k :: As) w n0 (fun v u k => Wx p l e R s m args below meth c Q nL c0 s0 E (pc + 3) L (v.toList ++ r) u k) (fun X u k => match hd pc X with
          | some h => ∀ q : Nat, Wx p l e R s m args below meth c Q nL c0 s0 E h L [vO q] u k
          | none => xp X u)) : Wx p l e R s m args below meth c Q nL c0 s0 E pc L S w n0 := by
  obtain ⟨hx, hb, hml, hown, hSF, hok, hI, ho, hR1, hR2, hR3, hR4⟩ := F
  obtain ⟨d, b, po, xo, hd1, hb1, hC, hk, hxk⟩ := h
  intro hl H locs ls hH hL
  obtain ⟨P, hP1, hP2, hP3⟩ := popA_spec _ _ _ _ _ hpop
  rw [List.append_nil] at hP1
  subst hP1
  have hM := hC H.size
  obtain ⟨hwm, hmi⟩ := ho.mi (lk_mem hlk)
  unfold miB at hmi
  simp only [Bool.and_eq_true, decide_eq_true_eq] at hmi
  obtain ⟨⟨⟨w4, w5⟩, w6⟩, w7⟩ := hmi
  have w1 : inT (.methodLink o.1 idx mi.1) := hwm _ (by simp [miW])
  have w2 : inT (.initialized mi.1.cls) := hwm _ (by simp [miW])
  have w3 : ∀ w ∈ wsOf mi, inT w := fun w hw => hwm w (by unfold miW; exact List.mem_append_left _ (List.mem_append_right _ hw))
  rw [hcl] at w7
  have hm : (k, 0) ∈ eI E := hI k 0 hg (cnt_pos (by rw [hs]; simp))
  obtain ⟨q0, -, hq⟩ := wl_pos (w := w) hm
  rw [wcell_0 hs] at hq
  have h99 : cl ≠ 99 := by
    rintro rfl
    have := shp_in k
    rw [hs] at this
    have key : ∀ x ∈ ((9, 0, 0) :: shpL : List (Nat × Nat × Nat)), x.1 = 0 → x.2.1 ≠ 99 := by decide
    exact key _ this rfl rfl
  rw [if_neg h99] at w7
  simp only [Bool.and_eq_true, decide_eq_true_eq] at w7
  obtain ⟨v1, v2⟩ := w7
  have v3 : inT (.instanceMethod mi.1) := hwm _ (by unfold miW; refine List.mem_append_right _ ?_; rw [hcl, if_neg h99]; exact List.mem_cons_self)
  have v4 : inT (.selects mi.1.cls mi.1 mi.1) := hwm _ (by unfold miW; refine List.mem_append_right _ ?_; rw [hcl, if_neg h99]; exact List.mem_cons_of_mem _ List.mem_cons_self)
  have hS0 : S.map (cv E) = (As.map (cv E)).reverse ++ .ref (eA E k 0) :: r.map (cv E) := by
    rw [hP2, List.map_append, List.map_reverse, List.map_cons, List.reverse_cons, List.append_assoc]
    rfl
  have hroom : 2 * (F0 m pc ls (S.map (cv E))).monitorRoom + ((r.map (cv E)).map fun v => v.category).sum ≤ 8 := lv_room (by rw [catS_sum]; exact hcat)
  have hr : vx_Run p l e R s m args below meth c H locs (c0 + n0) (s0 + 6 * n0) b (6 * b) (F0 m pc ls (S.map (cv E))) (r.map (cv E)) (Qx E po H.size ((vR k :: As).map (cv E)).toArray) (Xx E xo H.size) (AE E H.size) := by
    have hws := wsOf_use (mi := mi) hSF.2.1 w3
    have hPre : PreV s H mi.1.cls (eA E k 0) (va_Pc ((vR k :: As).map (cv E)) (fun U => U.heap.size = H.size ∧ HW E w U)) (As.map (cv E)) := ⟨HW.blind, by
      have := va_recv hSF.1 hH.1 (cls_all cl v1).1 hq
      rw [v2] at this
      exact this, fun U hU hW => HW.pre hSF hH (vR k :: As) U hU hW⟩
    have hlen : (As.map (cv E)).length = mi.2.2.2.2.1 := by rw [List.length_map]; exact Nat.succ.inj hP3
    have hfit : (c0 + n0) + b ≤ R.cells ∧ (s0 + 6 * n0) + 6 * b ≤ R.slots := ⟨by omega, by omega⟩
    have hrm : (rmo d b).frames + 1 ≤ R.frames ∧ 8 + (mi.2.2.1 + 11) + (rmo d b).locals ≤ R.locals := ⟨by show d + 8 + 1 ≤ _; omega, by show 8 + (mi.2.2.1 + 11) + (64 * d + 128) ≤ _; omega⟩
    cases hhh : mi.2.2.2.2.2.2 with
    | nil =>
      have hw : wsOf mi = [.code mi.1 mi.2.1 mi.2.2.1 mi.2.2.2.1] := by unfold wsOf; rw [hhh]
      have hcw : Cond.code mi.1 mi.2.1 mi.2.2.1 mi.2.2.2.1 ∈ wsOf mi := by rw [hw]; exact List.mem_cons_self
      exact vx_runV (Ts := []) (own := o.1) (C := mi.1.cls) (b := eA E k 0) (As := As.map (cv E)) (bytes := mi.2.1) (maxL := mi.2.2.1) (ret := mi.2.2.2.1) (index := idx) ⟨hx, hb, hml, hown, fun _ z => nomatch z⟩ hM
        ⟨⟨rfl, rfl, hrm.1, hrm.2, hws, hcw, hws _ hcw args s (State.WarmedH.refl s), inT_use hSF.2.1 w2 args, w4, desc_len w5, inT_use hSF.2.1 w1 args⟩, inT_use hSF.2.1 v3 args, inT_use hSF.2.1 v4 args⟩ hPre rfl hlen hL.1 hS0 hroom hdec hfit
    | cons q qs =>
      have hw : wsOf mi = [.codeWith mi.1 mi.2.1 mi.2.2.1 mi.2.2.2.1 (q :: qs)] := by unfold wsOf; rw [hhh]
      have hcw : Cond.codeWith mi.1 mi.2.1 mi.2.2.1 mi.2.2.2.1 (q :: qs) ∈ wsOf mi := by rw [hw]; exact List.mem_cons_self
      exact vx_runVX (Ts := []) (own := o.1) (C := mi.1.cls) (b := eA E k 0) (As := As.map (cv E)) (bytes := mi.2.1) (maxL := mi.2.2.1) (ret := mi.2.2.2.1) (index := idx) (hh := q :: qs) ⟨hx, hb, hml, hown, fun _ z => nomatch z⟩ hM
        ⟨⟨rfl, rfl, hrm.1, hrm.2, hws, hcw⟩, hws _ hcw args s (State.WarmedH.refl s), inT_use hSF.2.1 w2 args, w4, desc_len w5, inT_use hSF.2.1 w1 args, inT_use hSF.2.1 v3 args, inT_use hSF.2.1 v4 args⟩ hPre rfl hlen hL.1 hS0 hroom hdec hfit
  refine m_call hr hH.2.2 (fun X ce q9 u H1 locs1 hxo hP hS hce hcv hcl => ?_) (fun v u H1 locs1 hpo hP hS => ?_)
  · have := hX pc X u (n0 + b) H1 locs1 L ls (r.map (cv E)) ce q9 hb1 hl hL ⟨hP, wl_D hH.2.1, hS⟩ hce hcv hcl (hxk X u hxo)
    rwa [show c0 + n0 + b = c0 + (n0 + b) by omega, show s0 + 6 * n0 + 6 * b = s0 + 6 * (n0 + b) by omega]
  · have := hk v u hpo hl H1 locs1 ls ⟨hP, wl_D hH.2.1, hS⟩ hL
    rw [show c0 + n0 + b = c0 + (n0 + b) by omega, show s0 + 6 * n0 + 6 * b = s0 + 6 * (n0 + b) by omega]
    rw [List.map_append] at this
    cases v <;> exact this
end
