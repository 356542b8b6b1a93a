section
variable {p : Program} {l : Launch} {e : Env} {R : Room} {s : State} {m : MethodId} {args : Array Value} {below : List Frame} {meth : Method} {c : Code} {Q : State → Prop} {nL c0 s0 : Nat} {E : En}
variable {cc : ByteArray} {gk : Nat → Bool} {o : OT} {D B : Nat} {sc : Option (Nat × Nat × (Nat → Int32))} {tw : List (Nat × TW)} {hd : Nat → String → Option Nat} {ret : Option FieldType} {po : Option AV → Wd → Prop} {xp : String → Wd → Prop}
def retI (ret : Option FieldType) (x : Int32) : Prop := match ret with
  | some .int => True
  | some .boolean => x = 0 ∨ x = 1
  | _ => False
def RET (p : Program) (l : Launch) (e : Env) (R : Room) (s : State) (m : MethodId) (args : Array Value) (below : List Frame) (meth : Method) (c : Code) (Q : State → Prop) (c0 s0 : Nat) (E : En) (cc : ByteArray) (B : Nat) (ret : Option FieldType) (po : Option AV → Wd → Prop) : Prop :=
  (∀ (pc : Nat) (x : Int32) (w : Wd) (n : Nat) (H : Heap) (locs : List Loc) (ls : Array Slot), decode cc pc = .ok (.ireturn, 1) → HS s E w H locs → n ≤ B → retI ret x → po (some (vI x)) w → W p l e R s m args below meth c H locs (c0 + n) (s0 + 6 * n) Q (F0 m pc ls [.int x])) ∧
  (∀ (pc : Nat) (x : Int64) (w : Wd) (n : Nat) (H : Heap) (locs : List Loc) (ls : Array Slot), decode cc pc = .ok (.lreturn, 1) → HS s E w H locs → n ≤ B → ret = some .long → po (some (vJ x)) w → W p l e R s m args below meth c H locs (c0 + n) (s0 + 6 * n) Q (F0 m pc ls [.long x])) ∧
  (∀ (pc : Nat) (w : Wd) (n : Nat) (H : Heap) (locs : List Loc) (ls : Array Slot), decode cc pc = .ok (.return_, 1) → HS s E w H locs → n ≤ B → ret = none → po none w → W p l e R s m args below meth c H locs (c0 + n) (s0 + 6 * n) Q (F0 m pc ls []))
def NEWS (p : Program) (l : Launch) (e : Env) (R : Room) (s : State) (m : MethodId) (args : Array Value) (below : List Frame) (meth : Method) (c : Code) (Q : State → Prop) (nL c0 s0 : Nat) (E : En) (tw : List (Nat × TW)) (B : Nat) (xp : String → Wd → Prop) : Prop :=
  ∀ (pc : Nat) (t : TW) (w : Wd) (n : Nat) (H : Heap) (locs : List Loc) (ls : Array Slot), lk tw pc = some t → HS s E w H locs → ls.size = nL → n + 1 ≤ B → xp t.1 w → W p l e R s m args below meth c H locs (c0 + n) (s0 + 6 * n) Q (F0 m pc ls [])
def SCR (s : State) (E : En) (sc : Option (Nat × Nat × (Nat → Int32))) : Prop := match sc with
  | none => True
  | some (b, n, xs) => va_X b n xs s s.heap ∧ b < s.heap.size ∧ ¬ AE E s.heap.size b ∧ n < 2 ^ 31
set_option maxHeartbeats 4000000 in
theorem stp_sound (F : MF p R s m c nL c0 s0 E cc gk o D B) (hX : XK p l e R s m args below meth c Q nL c0 s0 E hd B xp) (hRet : RET p l e R s m args below meth c Q c0 s0 E cc B ret po) (hNew : NEWS p l e R s m args below meth c Q nL c0 s0 E tw B xp) (hSc : SCR s E sc)
    {ins : Instr} {tg pc n0 : Nat} {L : List (Option AV)} {S : List AV} {w : Wd} (hpg : pgOK cc (pc, ins, tg) = true) (h : stp l E sc gk o tw hd D B ret po xp (Wx p l e R s m args below meth c Q nL c0 s0 E) ins tg pc L S w n0) :
    Wx p l e R s m args below meth c Q nL c0 s0 E pc L S w n0 := by
  obtain ⟨hx, hb, hml, hown, hSF, hok, hI, ho, hR⟩ := id F
  unfold pgOK at hpg
  rw [Bool.and_eq_true] at hpg
  obtain ⟨hdec, hj⟩ := hpg
  replace hdec := of_decide_eq_true hdec
  cases ins
  case iconst n => exact fun hl H locs ls hH hL => lv_iconst hx hb hdec rfl (h hl H locs ls hH hL)
  case bipush n => exact fun hl H locs ls hH hL => lv_bipush hx hb hdec rfl (h hl H locs ls hH hL)
  case sipush n => exact fun hl H locs ls hH hL => lv_sipush hx hb hdec rfl (h hl H locs ls hH hL)
  case lconst n => exact fun hl H locs ls hH hL => lv_lconst hx hb hdec rfl (h hl H locs ls hH hL)
  case ldc_w i =>
    simp only [stp] at h
    split at h
    · rename_i x hlk
      exact fun hl H locs ls hH hL => lv_ldcw hx hb hown (inT_use hSF.2.1 (ho.ci (lk_mem hlk)) args) hdec (h hl H locs ls hH hL)
    · exact h.elim
  case ldc2_w i =>
    simp only [stp] at h
    split at h
    · rename_i x hlk
      exact fun hl H locs ls hH hL => lv_ldc2 hx hb hown (inT_use hSF.2.1 (ho.cl (lk_mem hlk)) args) hdec (h hl H locs ls hH hL)
    · exact h.elim
  case iload_n n =>
    simp only [stp] at h
    split at h
    · rename_i x hv
      exact fun hl H locs ls hH hL => lv_iload_n hx hb hdec rfl (hL.2.2 _ _ hv) (h hl H locs ls hH hL)
    · exact h.elim
  case iload n =>
    simp only [stp] at h
    split at h
    · rename_i x hv
      exact fun hl H locs ls hH hL => lv_iload hx hb hdec (hL.2.2 _ _ hv) (h hl H locs ls hH hL)
    · exact h.elim
  case lload_n n =>
    simp only [stp] at h
    split at h
    · rename_i x hv
      exact fun hl H locs ls hH hL => lv_lload_n hx hb hdec rfl (hL.2.2 _ _ hv) (h hl H locs ls hH hL)
    · exact h.elim
  case lload n =>
    simp only [stp] at h
    split at h
    · rename_i x hv
      exact fun hl H locs ls hH hL => lv_lload hx hb hdec (hL.2.2 _ _ hv) (h hl H locs ls hH hL)
    · exact h.elim
  case aload_n n =>
    simp only [stp] at h
    split at h
    · rename_i x hv
      intro hl H locs ls hH hL
      have h1 := hL.2.2 _ _ hv
      have h2 := h hl H locs ls hH hL
      rcases x with k | q | a
      · exact lv_aload_n hx hb hdec rfl h1 h2
      · exact lv_aload_n hx hb hdec rfl h1 h2
      · exact lv_aload_n hx hb hdec rfl h1 h2
    · exact h.elim
  case aload n =>
    simp only [stp] at h
    split at h
    · rename_i x hv
      intro hl H locs ls hH hL
      have h1 := hL.2.2 _ _ hv
      have h2 := h hl H locs ls hH hL
      rcases x with k | q | a
      · exact lv_aload hx hb hdec h1 h2
      · exact lv_aload hx hb hdec h1 h2
      · exact lv_aload hx hb hdec h1 h2
    · exact h.elim
  case istore_n n =>
    simp only [stp] at h
    split at h
    · rename_i hlt
      have hlt : n.val < L.length := Nat.le_of_ble_eq_true hlt
      unfold op1 at h
      split at h
      · rename_i x r
        exact fun hl H locs ls hH hL => lv_istore_n hx hb hdec rfl hL.has (by omega) rfl (fun ls' hls => h (by rw [stL_len]; exact hl) H locs ls' hH (LR.store1 (v := vI x) rfl hls))
      · exact h.elim
    · exact h.elim
  case istore n =>
    simp only [stp] at h
    split at h
    · rename_i hlt
      have hlt : n < L.length := Nat.le_of_ble_eq_true hlt
      unfold op1 at h
      split at h
      · rename_i x r
        exact fun hl H locs ls hH hL => lv_istore hx hb hdec hL.has (by omega) rfl (fun ls' hls => h (by rw [stL_len]; exact hl) H locs ls' hH (LR.store1 (v := vI x) rfl hls))
      · exact h.elim
    · exact h.elim
  case lstore_n n =>
    simp only [stp] at h
    split at h
    · rename_i hlt
      have hlt : n.val + 1 < L.length := Nat.le_of_ble_eq_true hlt
      unfold op1J at h
      split at h
      · rename_i x r
        exact fun hl H locs ls hH hL => lv_lstore_n hx hb hdec rfl hL.has (by omega) rfl (fun ls' hls => h (by rw [stL_len]; exact hl) H locs ls' hH (LR.store2 (v := vJ x) rfl hls))
      · exact h.elim
    · exact h.elim
  case lstore n =>
    simp only [stp] at h
    split at h
    · rename_i hlt
      have hlt : n + 1 < L.length := Nat.le_of_ble_eq_true hlt
      unfold op1J at h
      split at h
      · rename_i x r
        exact fun hl H locs ls hH hL => lv_lstore hx hb hdec hL.has (by omega) rfl (fun ls' hls => h (by rw [stL_len]; exact hl) H locs ls' hH (LR.store2 (v := vJ x) rfl hls))
      · exact h.elim
    · exact h.elim
  case astore_n n =>
    simp only [stp] at h
    split at h
    · rename_i x r hlt
      have hlt : n.val < L.length := Nat.le_of_ble_eq_true hlt
      intro hl H locs ls hH hL
      rcases x with k | q | a
      · exact lv_astore_n hx hb hdec rfl hL.has (by omega) rfl (fun ls' hls => h (by rw [stL_len]; exact hl) H locs ls' hH (LR.store1 rfl hls))
      · exact lv_astore_n hx hb hdec rfl hL.has (by omega) rfl (fun ls' hls => h (by rw [stL_len]; exact hl) H locs ls' hH (LR.store1 rfl hls))
      · exact lv_astore_n hx hb hdec rfl hL.has (by omega) rfl (fun ls' hls => h (by rw [stL_len]; exact hl) H locs ls' hH (LR.store1 rfl hls))
    · exact h.elim
  case astore n =>
    simp only [stp] at h
    split at h
    · rename_i x r hlt
      have hlt : n < L.length := Nat.le_of_ble_eq_true hlt
      intro hl H locs ls hH hL
      rcases x with k | q | a
      · exact lv_astore hx hb hdec hL.has (by omega) rfl (fun ls' hls => h (by rw [stL_len]; exact hl) H locs ls' hH (LR.store1 rfl hls))
      · exact lv_astore hx hb hdec hL.has (by omega) rfl (fun ls' hls => h (by rw [stL_len]; exact hl) H locs ls' hH (LR.store1 rfl hls))
      · exact lv_astore hx hb hdec hL.has (by omega) rfl (fun ls' hls => h (by rw [stL_len]; exact hl) H locs ls' hH (LR.store1 rfl hls))
    · exact h.elim
  case iinc n k =>
    simp only [stp] at h
    split at h
    · rename_i x hv
      intro hl H locs ls hH hL
      obtain ⟨j, hj9⟩ := List.getElem?_of_mem (lvl_mem (E := E).mpr ⟨_, hv, rfl⟩)
      exact lv_iinc hx hb hdec hL.has (k := j) hj9 rfl (by have := (List.getElem?_eq_some_iff.mp hv).1; omega) rfl (fun ls' hls => h (by rw [stL_len]; exact hl) H locs ls' hH (LR.store1 (v := vI (x + Int32.ofInt k)) rfl hls))
    · exact h.elim
  case iadd =>
    simp only [stp, opI] at h
    split at h
    · exact fun hl H locs ls hH hL => lv_iadd hx hb hdec (h hl H locs ls hH hL)
    · exact h.elim
  case isub =>
    simp only [stp, opI] at h
    split at h
    · exact fun hl H locs ls hH hL => lv_isub hx hb hdec (h hl H locs ls hH hL)
    · exact h.elim
  case imul =>
    simp only [stp, opI] at h
    split at h
    · exact fun hl H locs ls hH hL => lv_imul hx hb hdec (h hl H locs ls hH hL)
    · exact h.elim
  case idiv =>
    simp only [stp, opI] at h
    split at h
    · exact fun hl H locs ls hH hL => lv_idiv hx hb hdec h.1 (h.2 hl H locs ls hH hL)
    · exact h.elim
  case irem =>
    simp only [stp, opI] at h
    split at h
    · exact fun hl H locs ls hH hL => lv_irem hx hb hdec h.1 (h.2 hl H locs ls hH hL)
    · exact h.elim
  case iand =>
    simp only [stp, opI] at h
    split at h
    · exact fun hl H locs ls hH hL => lv_iand hx hb hdec (h hl H locs ls hH hL)
    · exact h.elim
  case ior =>
    simp only [stp, opI] at h
    split at h
    · exact fun hl H locs ls hH hL => lv_ior hx hb hdec (h hl H locs ls hH hL)
    · exact h.elim
  case ixor =>
    simp only [stp, opI] at h
    split at h
    · exact fun hl H locs ls hH hL => lv_ixor hx hb hdec (h hl H locs ls hH hL)
    · exact h.elim
  case ishl =>
    simp only [stp, opI] at h
    split at h
    · exact fun hl H locs ls hH hL => lv_ishl hx hb hdec (h hl H locs ls hH hL)
    · exact h.elim
  case ishr =>
    simp only [stp, opI] at h
    split at h
    · exact fun hl H locs ls hH hL => lv_ishr hx hb hdec (h hl H locs ls hH hL)
    · exact h.elim
  case iushr =>
    simp only [stp, opI] at h
    split at h
    · exact fun hl H locs ls hH hL => lv_iushr hx hb hdec rfl (h hl H locs ls hH hL)
    · exact h.elim
  case ladd =>
    simp only [stp, opJ] at h
    split at h
    · exact fun hl H locs ls hH hL => lv_ladd hx hb hdec (h hl H locs ls hH hL)
    · exact h.elim
  case lsub =>
    simp only [stp, opJ] at h
    split at h
    · exact fun hl H locs ls hH hL => lv_lsub hx hb hdec (h hl H locs ls hH hL)
    · exact h.elim
  case lmul =>
    simp only [stp, opJ] at h
    split at h
    · exact fun hl H locs ls hH hL => lv_lmul hx hb hdec (h hl H locs ls hH hL)
    · exact h.elim
  case ldiv =>
    simp only [stp, opJ] at h
    split at h
    · exact fun hl H locs ls hH hL => lv_ldiv hx hb hdec h.1 (h.2 hl H locs ls hH hL)
    · exact h.elim
  case lrem =>
    simp only [stp, opJ] at h
    split at h
    · exact fun hl H locs ls hH hL => lv_lrem hx hb hdec h.1 (h.2 hl H locs ls hH hL)
    · exact h.elim
  case land =>
    simp only [stp, opJ] at h
    split at h
    · exact fun hl H locs ls hH hL => lv_land hx hb hdec (h hl H locs ls hH hL)
    · exact h.elim
  case lor =>
    simp only [stp, opJ] at h
    split at h
    · exact fun hl H locs ls hH hL => lv_lor hx hb hdec (h hl H locs ls hH hL)
    · exact h.elim
  case lxor =>
    simp only [stp, opJ] at h
    split at h
    · exact fun hl H locs ls hH hL => lv_lxor hx hb hdec (h hl H locs ls hH hL)
    · exact h.elim
  case lcmp =>
    simp only [stp, opJ] at h
    split at h
    · exact fun hl H locs ls hH hL => W.lcmp hx hb hdec (h hl H locs ls hH hL)
    · exact h.elim
  case lshl =>
    simp only [stp, opH] at h
    split at h
    · exact fun hl H locs ls hH hL => lv_lshl hx hb hdec rfl (h hl H locs ls hH hL)
    · exact h.elim
  case lshr =>
    simp only [stp, opH] at h
    split at h
    · exact fun hl H locs ls hH hL => lv_lshr hx hb hdec rfl (h hl H locs ls hH hL)
    · exact h.elim
  case lushr =>
    simp only [stp, opH] at h
    split at h
    · exact fun hl H locs ls hH hL => lv_lushr hx hb hdec rfl (h hl H locs ls hH hL)
    · exact h.elim
  case i2l =>
    simp only [stp, op1] at h
    split at h
    · exact fun hl H locs ls hH hL => lv_i2l hx hb hdec rfl (h hl H locs ls hH hL)
    · exact h.elim
  case i2c =>
    simp only [stp, op1] at h
    split at h
    · exact fun hl H locs ls hH hL => lv_i2c hx hb hdec rfl (h hl H locs ls hH hL)
    · exact h.elim
  case l2i =>
    simp only [stp, op1J] at h
    split at h
    · exact fun hl H locs ls hH hL => lv_l2i hx hb hdec rfl (h hl H locs ls hH hL)
    · exact h.elim
  case dup =>
    simp only [stp] at h
    split at h
    · rename_i v r
      split at h
      · exact h.elim
      · rename_i hv
        exact fun hl H locs ls hH hL => lv_dup hx hb hdec ((lv_cat (cv E v)).resolve_right (fun z => by rw [(cv_cat E v).mp z] at hv; cases hv)) (h hl H locs ls hH hL)
    · exact h.elim
  case pop =>
    simp only [stp] at h
    split at h
    · rename_i v r
      split at h
      · exact h.elim
      · rename_i hv
        exact fun hl H locs ls hH hL => lv_pop hx hb hdec ((lv_cat (cv E v)).resolve_right (fun z => by rw [(cv_cat E v).mp z] at hv; cases hv)) (h hl H locs ls hH hL)
    · exact h.elim
  case dup2 =>
    simp only [stp] at h
    split at h
    · rename_i v u r
      split at h
      · exact h.elim
      · rename_i hv
        rw [Bool.or_eq_false_iff] at hv
        exact fun hl H locs ls hH hL => lv_dup2_11 hx hb hdec ((lv_cat (cv E v)).resolve_right (fun z => by rw [(cv_cat E v).mp z] at hv; cases hv.1)) ((lv_cat (cv E u)).resolve_right (fun z => by rw [(cv_cat E u).mp z] at hv; cases hv.2)) (h hl H locs ls hH hL)
    · exact h.elim
  case ifCond q f =>
    replace hj : (pc : Int) + f = (tg : Int) := of_decide_eq_true hj
    simp only [stp, op1] at h
    split at h
    · rename_i x r
      intro hl H locs ls hH hL
      cases q
      case eq => exact lv_if_eq hx hb hdec hj (fun z => h.1 z hl H locs ls hH hL) (fun z => h.2 z hl H locs ls hH hL)
      case ge => exact lv_if_ge hx hb hdec hj (fun z => h.1 z hl H locs ls hH hL) (fun z => h.2 z hl H locs ls hH hL)
      case gt => exact lv_if_gt hx hb hdec hj (fun z => h.1 z hl H locs ls hH hL) (fun z => h.2 z hl H locs ls hH hL)
      case le => exact lv_if_le hx hb hdec hj (fun z => h.1 z hl H locs ls hH hL) (fun z => h.2 z hl H locs ls hH hL)
      case lt => exact lv_if_lt hx hb hdec hj (fun z => h.1 z hl H locs ls hH hL) (fun z => h.2 z hl H locs ls hH hL)
      case ne => exact lv_if_ne hx hb hdec hj (fun z => h.1 z hl H locs ls hH hL) (fun z => h.2 (fun y => y z) hl H locs ls hH hL)
    · exact h.elim
  case if_icmp q f =>
    replace hj : (pc : Int) + f = (tg : Int) := of_decide_eq_true hj
    simp only [stp, opI] at h
    split at h
    · rename_i x y r
      intro hl H locs ls hH hL
      cases q
      case eq => exact lv_icmp_eq hx hb hdec hj (fun z => h.1 z hl H locs ls hH hL) (fun z => h.2 z hl H locs ls hH hL)
      case ge => exact lv_icmp_ge hx hb hdec hj (fun z => h.1 z hl H locs ls hH hL) (fun z => h.2 z hl H locs ls hH hL)
      case gt => exact lv_icmp_gt hx hb hdec hj (fun z => h.1 z hl H locs ls hH hL) (fun z => h.2 z hl H locs ls hH hL)
      case le => exact lv_icmp_le hx hb hdec hj (fun z => h.1 z hl H locs ls hH hL) (fun z => h.2 z hl H locs ls hH hL)
      case lt => exact lv_icmp_lt hx hb hdec hj (fun z => h.1 z hl H locs ls hH hL) (fun z => h.2 z hl H locs ls hH hL)
      case ne => exact lv_icmp_ne hx hb hdec hj (fun z => h.1 z hl H locs ls hH hL) (fun z => h.2 (fun y => y z) hl H locs ls hH hL)
    · exact h.elim
  case goto f =>
    replace hj : (pc : Int) + f = (tg : Int) := of_decide_eq_true hj
    exact fun hl H locs ls hH hL => lv_goto hx hb hdec hj (h hl H locs ls hH hL)
  case tableswitch df lo hi offs =>
    simp only [stp, op1] at h
    split at h
    · obtain ⟨t, ht, h⟩ := h
      intro hl H locs ls hH hL
      rcases ht with ⟨h1, h2⟩ | ⟨h1, h2, off, h3, h4⟩
      · exact lv_tableOut hx hb hdec h1 h2 (h hl H locs ls hH hL)
      · exact lv_tableIn hx hb hdec h1 h2 h3 h4 (h hl H locs ls hH hL)
    · exact h.elim
  case getfield i =>
    simp only [stp] at h
    split at h
    · exact m_get F hdec h
    · exact h.elim
  case putfield i =>
    simp only [stp] at h
    split at h
    · exact m_put F hdec h
    · exact h.elim
  case iaload =>
    simp only [stp] at h
    split at h
    · rename_i i a r
      split at h
      · rename_i b n xs
        obtain ⟨rfl, j, rfl, hjn, h⟩ := h
        obtain ⟨s1, s2, s3, s4⟩ := hSc
        intro hl H locs ls hH hL
        refine va_sld hx hb s1 s2 s3 hH.2.2 (vp_in_nI hjn s4) hdec ?_
        rw [nI_clamp (by omega)]
        exact h hl H locs ls hH hL
      · exact h.elim
    · exact m_iald F hdec h
  case laload => exact m_lald F hdec h
  case caload => exact m_cald F hdec h
  case baload => exact m_zald F hdec h
  case aaload =>
    simp only [stp] at h
    split at h
    · exact m_aald F hdec h
    · exact h.elim
  case iastore => exact m_iast F hdec h
  case castore => exact m_cast F hdec h
  case bastore => exact m_zast F hdec h
  case lastore => exact m_last F hdec h
  case arraylength =>
    simp only [stp] at h
    split at h
    · rename_i a r
      split at h
      · rename_i b n xs
        obtain ⟨rfl, h⟩ := h
        obtain ⟨s1, s2, s3, s4⟩ := hSc
        exact fun hl H locs ls hH hL => va_slen hx hb s1 s2 s3 hH.2.2 hdec (h hl H locs ls hH hL)
      · exact h.elim
    · rename_i a r hna
      obtain ⟨k, q, hm, ha, h⟩ := rf_spec hI (fun k i h => by
        revert h
        generalize shp k = z
        obtain ⟨t, n, b⟩ := z
        intro h
        split at h
        · rename_i e; cases e; simp
        · rename_i e; cases e; simp
        · exact h.elim) h
      intro hl H locs ls hH hL
      obtain ⟨q0, -, hq⟩ := wl_pos (w := w) hm
      show W p l e R s m args below meth c H locs _ _ Q (F0 m pc ls (cv E a :: r.map (cv E)))
      rw [ha]
      split at h
      · rename_i n b hs
        rw [wcell_1 hs] at hq
        exact va_alen hx hb hSF.1 hH.1 q0 0 hq rfl rfl hdec (h hl H locs ls hH hL)
      · rename_i n b hs
        rw [wcell_2 hs] at hq
        exact va_alen hx hb hSF.1 hH.1 q0 1 hq rfl rfl hdec (h hl H locs ls hH hL)
      · exact h.elim
    · exact h.elim
  case invokestatic i =>
    simp only [stp] at h
    split at h
    · rename_i mi hlk
      split at h
      · rename_i As r h99 hpop
        split at h
        · rename_i hcat
          exact m_callS F hX hdec hlk (Nat.eq_of_beq_eq_true h99) hpop (Nat.le_of_ble_eq_true hcat) h.1
        · exact h.elim
      · exact h.elim
    · exact h.elim
  case invokevirtual i =>
    simp only [stp] at h
    split at h
    · rename_i mi hlk
      split at h
      · rename_i k As r hpop
        split at h
        · rename_i cl b0 hg hs
          rw [Bool.and_eq_true] at hg
          split at h
          · rename_i hcl
            exact m_callV F hX hdec hlk hg.2 hs (Nat.eq_of_beq_eq_true hcl) hpop (Nat.le_of_ble_eq_true hg.1) h.1
          · exact h.elim
        · exact h.elim
      · exact h.elim
    · exact h.elim
  case ireturn =>
    simp only [stp] at h
    split at h
    · rename_i x
      intro hl H locs ls hH hL
      split at h
      · exact hRet.1 pc x w n0 H locs ls hdec hH h.2 trivial h.1
      · exact hRet.1 pc x w n0 H locs ls hdec hH h.2.2 h.1 h.2.1
      · exact h.elim
    · exact h.elim
  case lreturn =>
    simp only [stp] at h
    split at h
    · rename_i x
      intro hl H locs ls hH hL
      split at h
      · exact hRet.2.1 pc x w n0 H locs ls hdec hH h.2 rfl h.1
      · exact h.elim
    · exact h.elim
  case return_ =>
    simp only [stp] at h
    split at h
    · exact fun hl H locs ls hH hL => hRet.2.2 pc w n0 H locs ls hdec hH h.2 rfl h.1
    · exact h.elim
  case new i =>
    simp only [stp] at h
    split at h
    · rename_i t ht
      exact fun hl H locs ls hH hL => hNew pc t w n0 H locs ls ht hH hL.1 h.2 h.1
    · exact h.elim
  all_goals exact False.elim h
end
