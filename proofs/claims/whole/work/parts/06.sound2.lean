theorem cnt_pos {k : Nat} (h : (shp k).1 ≠ 9) : 0 < cnt k := by
  unfold cnt
  split
  · omega
  · first | (rw [if_neg h]; omega) | omega
def inT (w : Cond) : Prop := w ∈ lw_tbl ∧ okW w = true
def inB (w : Cond) : Bool := decide (w ∈ lw_tbl) && okW w
theorem inB_T {w : Cond} (h : inB w = true) : inT w := by
  unfold inB at h
  rw [Bool.and_eq_true] at h
  exact ⟨of_decide_eq_true h.1, h.2⟩
theorem inT_use {U : State} (h : TBL U) {w : Cond} (hw : inT w) (A : Array Value) : w.before A U = true := h.use hw.1 hw.2 A
/-- the words of a call -/
def miW (own : String) (q : Nat × MI) : List Cond := [.methodLink own q.1 q.2.1, .initialized q.2.1.cls] ++ wsOf q.2 ++ (if q.2.2.2.2.2.2.1 = 99 then [.static q.2.1] else [.instanceMethod q.2.1, .selects q.2.1.cls q.2.1 q.2.1])
def miB (q : Nat × MI) : Bool := decide (q.2.1.cls ≠ "java/lang/invoke/MethodHandle" ∧ q.2.1.cls ≠ "java/lang/invoke/VarHandle") &&
  decide ((parseMethodDescriptor q.2.1.desc).map (fun d => d.parameters.length) = some q.2.2.2.2.2.1) && decide (q.2.2.2.1 ≤ 45) &&
  (if q.2.2.2.2.2.2.1 = 99 then true else decide (q.2.2.2.2.2.2.1 < 5) && decide (((clsT q.2.2.2.2.2.2.1).1 = q.2.1.cls)))
def flW (own : String) (q : Nat × Nat × Nat) : Cond := .fieldLink own q.1 ((clsT q.2.1).2.1 q.2.2).1 ((clsT q.2.1).2.1 q.2.2).2.1 ((clsT q.2.1).2.1 q.2.2).2.2.1
def otW (o : OT) : List Cond := o.2.1.map (flW o.1) ++ (o.2.2.1.map (fun q => .constantLong o.1 q.1 q.2) ++ (o.2.2.2.1.map (fun q => .constant o.1 q.1 q.2) ++ o.2.2.2.2.flatMap (miW o.1)))
def otB (o : OT) : Bool := o.2.1.all (fun q => decide (q.2.1 < 5) && decide (q.2.2 < (clsT q.2.1).2.2)) && o.2.2.2.2.all miB
def otOK (o : OT) : Prop := (∀ w ∈ otW o, inT w) ∧ otB o = true
theorem otOK.fl {o : OT} (h : otOK o) {q : Nat × Nat × Nat} (hq : q ∈ o.2.1) : inT (flW o.1 q) ∧ q.2.1 < 5 := by
  refine ⟨h.1 _ (List.mem_append_left _ (List.mem_map.mpr ⟨q, hq, rfl⟩)), ?_⟩
  have h2 := h.2
  unfold otB at h2
  rw [Bool.and_eq_true] at h2
  have h3 := List.all_eq_true.mp h2.1 q hq
  simp only [Bool.and_eq_true, decide_eq_true_eq] at h3
  exact h3.1
theorem otOK.cl {o : OT} (h : otOK o) {q : Nat × Int64} (hq : q ∈ o.2.2.1) : inT (.constantLong o.1 q.1 q.2) := h.1 _ (List.mem_append_right _ (List.mem_append_left _ (List.mem_map.mpr ⟨q, hq, rfl⟩)))
theorem otOK.ci {o : OT} (h : otOK o) {q : Nat × Int32} (hq : q ∈ o.2.2.2.1) : inT (.constant o.1 q.1 q.2) := h.1 _ (List.mem_append_right _ (List.mem_append_right _ (List.mem_append_left _ (List.mem_map.mpr ⟨q, hq, rfl⟩))))
theorem otOK.mi {o : OT} (h : otOK o) {q : Nat × MI} (hq : q ∈ o.2.2.2.2) : (∀ w ∈ miW o.1 q, inT w) ∧ miB q = true := by
  refine ⟨fun w hw => h.1 _ (List.mem_append_right _ (List.mem_append_right _ (List.mem_append_right _ (List.mem_flatMap.mpr ⟨q, hq, hw⟩)))), ?_⟩
  have h2 := h.2
  unfold otB at h2
  rw [Bool.and_eq_true] at h2
  exact List.all_eq_true.mp h2.2 q hq
def pgOK (cc : ByteArray) (q : Nat × Instr × Nat) : Bool := decide (decode cc q.1 = .ok (q.2.1, match q.2.1 with
    | .tableswitch _ _ _ _ => q.2.2
    | i => ilen i)) && (match q.2.1 with
  | .goto f => decide ((q.1 : Int) + f = (q.2.2 : Int))
  | .ifCond _ f => decide ((q.1 : Int) + f = (q.2.2 : Int))
  | .if_icmp _ f => decide ((q.1 : Int) + f = (q.2.2 : Int))
  | _ => true)
section
variable (p : Program) (l : Launch) (e : Env) (R : Room) (s : State) (m : MethodId) (args : Array Value) (below : List Frame) (meth : Method) (c : Code) (Q : State → Prop) (nL c0 s0 : Nat) (E : En)
def HS (w : Wd) (H : Heap) (locs : List Loc) : Prop := va_P (eD E) vwCl (wl E w) H ∧ va_D (AE E s.heap.size) (wl E w) ∧ va_S (AE E s.heap.size) s.heap H locs
def Wx : Nat → List (Option AV) → List AV → Wd → Nat → Prop := fun pc L S w n =>
  L.length = nL → ∀ (H : Heap) (locs : List Loc) (ls : Array Slot), HS s E w H locs → LR E nL ls L → W p l e R s m args below meth c H locs (c0 + n) (s0 + 6 * n) Q (F0 m pc ls (S.map (cv E)))
/-- what a body stands on -/
def MF (cc : ByteArray) (gk : Nat → Bool) (o : OT) (D B : Nat) : Prop :=
  p.tables.exec = Jvm.exec ∧ c.code = cc ∧ c.maxLocals = nL ∧ s.vm.findClass o.1 = some m.cls ∧ SF E s s.heap.size s.heap ∧ eOK E ∧ (∀ k i : Nat, gk k = true → i < cnt k → (k, i) ∈ eI E) ∧ otOK o ∧
  (D + 8 ≤ R.frames ∧ 64 * D + 128 ≤ R.locals ∧ c0 + B ≤ R.cells ∧ s0 + 6 * B ≤ R.slots)
end
section
variable {p : Program} {l : Launch} {e : Env} {R : Room} {s : State} {m : MethodId} {args : Array Value} {below : List Frame} {meth : Method} {c : Code} {Q : State → Prop} {nL c0 s0 : Nat} {E : En}
variable {cc : ByteArray} {gk : Nat → Bool} {o : OT} {D B : Nat} {pc n0 : Nat} {L : List (Option AV)} {S : List AV} {w : Wd}
theorem m_iald (F : MF p R s m c nL c0 s0 E cc gk o D B) (hdec : decode cc pc = .ok (.iaload, 1)) (h : ldA gk 1 S (fun k q n r => Wx p l e R s m args below meth c Q nL c0 s0 E (pc + 1) L (vI (w.1 k q n) :: r) w n0)) : Wx p l e R s m args below meth c Q nL c0 s0 E pc L S w n0 := by
  obtain ⟨hx, hb, -, -, hSF, -, hI, -, -⟩ := F
  intro hl H locs ls hH hL
  unfold ldA at h
  split at h
  · rename_i i a r
    obtain ⟨k, q, hm, ha, h⟩ := rf_spec hI (fun k i h => by obtain ⟨n, b, hs, -, -⟩ := ofT_spec h; rw [hs]; simp) h
    obtain ⟨len, b, hs, ⟨n, rfl, hn, h⟩, hlt⟩ := ofT_spec h
    obtain ⟨q0, -, hq⟩ := wl_pos (w := w) hm
    rw [wcell_1 hs] at hq
    show W p l e R s m args below meth c H locs _ _ Q (F0 m pc ls (Value.int (nI n) :: cv E a :: r.map (cv E)))
    rw [ha]
    refine va_iald hx hb hSF.1 hH.1 q0 0 hq rfl (vp_in_nI hn (by omega)) hdec ?_
    rw [nI_clamp (by omega)]
    exact h hl H locs ls hH hL
  · exact h.elim
theorem m_lald (F : MF p R s m c nL c0 s0 E cc gk o D B) (hdec : decode cc pc = .ok (.laload, 1)) (h : ldA gk 2 S (fun k q n r => Wx p l e R s m args below meth c Q nL c0 s0 E (pc + 1) L (vJ (w.2 k q n) :: r) w n0)) : Wx p l e R s m args below meth c Q nL c0 s0 E pc L S w n0 := by
  obtain ⟨hx, hb, -, -, hSF, -, hI, -, -⟩ := F
  intro hl H locs ls hH hL
  unfold ldA at h
  split at h
  · rename_i i a r
    obtain ⟨k, q, hm, ha, h⟩ := rf_spec hI (fun k i h => by obtain ⟨n, b, hs, -, -⟩ := ofT_spec h; rw [hs]; simp) h
    obtain ⟨len, b, hs, ⟨n, rfl, hn, h⟩, hlt⟩ := ofT_spec h
    obtain ⟨q0, -, hq⟩ := wl_pos (w := w) hm
    rw [wcell_2 hs] at hq
    show W p l e R s m args below meth c H locs _ _ Q (F0 m pc ls (Value.int (nI n) :: cv E a :: r.map (cv E)))
    rw [ha]
    refine va_lald hx hb hSF.1 hH.1 q0 1 hq rfl (vp_in_nI hn (by omega)) hdec ?_
    rw [nI_clamp (by omega)]
    exact h hl H locs ls hH hL
  · exact h.elim
theorem m_cald (F : MF p R s m c nL c0 s0 E cc gk o D B) (hdec : decode cc pc = .ok (.caload, 1)) (h : ldA gk 3 S (fun k q n r => Wx p l e R s m args below meth c Q nL c0 s0 E (pc + 1) L (vI (w.1 k q n) :: r) w n0)) : Wx p l e R s m args below meth c Q nL c0 s0 E pc L S w n0 := by
  obtain ⟨hx, hb, -, -, hSF, -, hI, -, -⟩ := F
  intro hl H locs ls hH hL
  unfold ldA at h
  split at h
  · rename_i i a r
    obtain ⟨k, q, hm, ha, h⟩ := rf_spec hI (fun k i h => by obtain ⟨n, b, hs, -, -⟩ := ofT_spec h; rw [hs]; simp) h
    obtain ⟨len, b, hs, ⟨n, rfl, hn, h⟩, hlt⟩ := ofT_spec h
    obtain ⟨q0, -, hq⟩ := wl_pos (w := w) hm
    rw [wcell_3 hs] at hq
    show W p l e R s m args below meth c H locs _ _ Q (F0 m pc ls (Value.int (nI n) :: cv E a :: r.map (cv E)))
    rw [ha]
    refine va_cald hx hb hSF.1 hH.1 q0 2 hq rfl (vp_in_nI hn (by omega)) hdec ?_
    rw [nI_clamp (by omega)]
    exact h hl H locs ls hH hL
  · exact h.elim
theorem m_zald (F : MF p R s m c nL c0 s0 E cc gk o D B) (hdec : decode cc pc = .ok (.baload, 1)) (h : ldA gk 4 S (fun k q n r => Wx p l e R s m args below meth c Q nL c0 s0 E (pc + 1) L (vI (w.1 k q n) :: r) w n0)) : Wx p l e R s m args below meth c Q nL c0 s0 E pc L S w n0 := by
  obtain ⟨hx, hb, -, -, hSF, -, hI, -, -⟩ := F
  intro hl H locs ls hH hL
  unfold ldA at h
  split at h
  · rename_i i a r
    obtain ⟨k, q, hm, ha, h⟩ := rf_spec hI (fun k i h => by obtain ⟨n, b, hs, -, -⟩ := ofT_spec h; rw [hs]; simp) h
    obtain ⟨len, b, hs, ⟨n, rfl, hn, h⟩, hlt⟩ := ofT_spec h
    obtain ⟨q0, -, hq⟩ := wl_pos (w := w) hm
    rw [wcell_4 hs] at hq
    show W p l e R s m args below meth c H locs _ _ Q (F0 m pc ls (Value.int (nI n) :: cv E a :: r.map (cv E)))
    rw [ha]
    refine va_zald hx hb hSF.1 hH.1 q0 3 hq rfl (vp_in_nI hn (by omega)) hdec ?_
    rw [nI_clamp (by omega)]
    exact h hl H locs ls hH hL
  · exact h.elim
theorem m_iast (F : MF p R s m c nL c0 s0 E cc gk o D B) (hdec : decode cc pc = .ok (.iastore, 1)) (h : stA gk 1 S (fun k q n x r => Wx p l e R s m args below meth c Q nL c0 s0 E (pc + 1) L r (wI w k q n x) n0)) : Wx p l e R s m args below meth c Q nL c0 s0 E pc L S w n0 := by
  obtain ⟨hx, hb, -, -, hSF, hok, hI, -, -⟩ := F
  intro hl H locs ls hH hL
  unfold stA at h
  split at h
  · rename_i x i a r
    obtain ⟨k, q, hm, ha, h⟩ := rf_spec hI (fun k i h => by obtain ⟨n, b, hs, -, -⟩ := ofT_spec h; rw [hs]; simp) h
    obtain ⟨len, b, hs, ⟨n, rfl, hn, h⟩, hlt⟩ := ofT_spec h
    obtain ⟨q0, hq0, hq⟩ := wl_pos (w := w) hm
    have he := wl_set (w := w) (w' := wI w k q n x) hok hq0 wI_other
    rw [wcell_1 hs, wI_at] at he
    rw [wcell_1 hs] at hq
    show W p l e R s m args below meth c H locs _ _ Q (F0 m pc ls (Value.int x :: Value.int (nI n) :: cv E a :: r.map (cv E)))
    rw [ha]
    refine va_iast hx hb hSF.1 hH.1 hH.2.1 hH.2.2 q0 0 hq rfl (vp_in_nI hn (by omega)) hdec (fun H1 locs1 hP hD hS => ?_)
    rw [nI_clamp (by omega), he] at hP hD
    exact h hl H1 locs1 ls ⟨hP, hD, hS⟩ hL
  · exact h.elim
theorem m_cast (F : MF p R s m c nL c0 s0 E cc gk o D B) (hdec : decode cc pc = .ok (.castore, 1)) (h : stA gk 3 S (fun k q n x r => Wx p l e R s m args below meth c Q nL c0 s0 E (pc + 1) L r (wI w k q n (vp_nar .char x)) n0)) : Wx p l e R s m args below meth c Q nL c0 s0 E pc L S w n0 := by
  obtain ⟨hx, hb, -, -, hSF, hok, hI, -, -⟩ := F
  intro hl H locs ls hH hL
  unfold stA at h
  split at h
  · rename_i x i a r
    obtain ⟨k, q, hm, ha, h⟩ := rf_spec hI (fun k i h => by obtain ⟨n, b, hs, -, -⟩ := ofT_spec h; rw [hs]; simp) h
    obtain ⟨len, b, hs, ⟨n, rfl, hn, h⟩, hlt⟩ := ofT_spec h
    obtain ⟨q0, hq0, hq⟩ := wl_pos (w := w) hm
    have he := wl_set (w := w) (w' := wI w k q n (vp_nar .char x)) hok hq0 wI_other
    rw [wcell_3 hs, wI_at] at he
    rw [wcell_3 hs] at hq
    show W p l e R s m args below meth c H locs _ _ Q (F0 m pc ls (Value.int x :: Value.int (nI n) :: cv E a :: r.map (cv E)))
    rw [ha]
    refine va_cast hx hb hSF.1 hH.1 hH.2.1 hH.2.2 q0 2 hq rfl (vp_in_nI hn (by omega)) hdec (fun H1 locs1 hP hD hS => ?_)
    rw [nI_clamp (by omega), he] at hP hD
    exact h hl H1 locs1 ls ⟨hP, hD, hS⟩ hL
  · exact h.elim
theorem m_zast (F : MF p R s m c nL c0 s0 E cc gk o D B) (hdec : decode cc pc = .ok (.bastore, 1)) (h : stA gk 4 S (fun k q n x r => Wx p l e R s m args below meth c Q nL c0 s0 E (pc + 1) L r (wI w k q n (vp_nar .boolean x)) n0)) : Wx p l e R s m args below meth c Q nL c0 s0 E pc L S w n0 := by
  obtain ⟨hx, hb, -, -, hSF, hok, hI, -, -⟩ := F
  intro hl H locs ls hH hL
  unfold stA at h
  split at h
  · rename_i x i a r
    obtain ⟨k, q, hm, ha, h⟩ := rf_spec hI (fun k i h => by obtain ⟨n, b, hs, -, -⟩ := ofT_spec h; rw [hs]; simp) h
    obtain ⟨len, b, hs, ⟨n, rfl, hn, h⟩, hlt⟩ := ofT_spec h
    obtain ⟨q0, hq0, hq⟩ := wl_pos (w := w) hm
    have he := wl_set (w := w) (w' := wI w k q n (vp_nar .boolean x)) hok hq0 wI_other
    rw [wcell_4 hs, wI_at] at he
    rw [wcell_4 hs] at hq
    show W p l e R s m args below meth c H locs _ _ Q (F0 m pc ls (Value.int x :: Value.int (nI n) :: cv E a :: r.map (cv E)))
    rw [ha]
    refine va_zast hx hb hSF.1 hH.1 hH.2.1 hH.2.2 q0 3 hq rfl (vp_in_nI hn (by omega)) hdec (fun H1 locs1 hP hD hS => ?_)
    rw [nI_clamp (by omega), he] at hP hD
    exact h hl H1 locs1 ls ⟨hP, hD, hS⟩ hL
  · exact h.elim
theorem m_last (F : MF p R s m c nL c0 s0 E cc gk o D B) (hdec : decode cc pc = .ok (.lastore, 1)) (h : stAJ gk S (fun k q n x r => Wx p l e R s m args below meth c Q nL c0 s0 E (pc + 1) L r (wJ w k q n x) n0)) : Wx p l e R s m args below meth c Q nL c0 s0 E pc L S w n0 := by
  obtain ⟨hx, hb, -, -, hSF, hok, hI, -, -⟩ := F
  intro hl H locs ls hH hL
  unfold stAJ at h
  split at h
  · rename_i x i a r
    obtain ⟨k, q, hm, ha, h⟩ := rf_spec hI (fun k i h => by obtain ⟨n, b, hs, -, -⟩ := ofT_spec h; rw [hs]; simp) h
    obtain ⟨len, b, hs, ⟨n, rfl, hn, h⟩, hlt⟩ := ofT_spec h
    obtain ⟨q0, hq0, hq⟩ := wl_pos (w := w) hm
    have he := wl_set (w := w) (w' := wJ w k q n x) hok hq0 wJ_other
    rw [wcell_2 hs, wJ_at] at he
    rw [wcell_2 hs] at hq
    show W p l e R s m args below meth c H locs _ _ Q (F0 m pc ls (Value.long x :: Value.int (nI n) :: cv E a :: r.map (cv E)))
    rw [ha]
    refine va_last hx hb hSF.1 hH.1 hH.2.1 hH.2.2 q0 1 hq rfl (vp_in_nI hn (by omega)) hdec (fun H1 locs1 hP hD hS => ?_)
    rw [nI_clamp (by omega), he] at hP hD
    exact h hl H1 locs1 ls ⟨hP, hD, hS⟩ hL
  · exact h.elim
theorem fdA_spec {E : En} {gk : Nat → Bool} {o : OT} {idx : Nat} {a : AV} {f : Nat → Nat → Nat → Nat → Prop} (hI : ∀ k i : Nat, gk k = true → i < cnt k → (k, i) ∈ eI E) (ho : otOK o) (h : fdA gk o.2.1 idx a f) :
    ∃ k q cl j b : Nat, (k, q) ∈ eI E ∧ cv E a = .ref (eA E k q) ∧ shp k = (0, cl, b) ∧ cl < 5 ∧ j < nfl cl ∧ f k q j (ftc cl j) ∧ inT (.fieldLink o.1 idx ((clsT cl).2.1 j).1 ((clsT cl).2.1 j).2.1 ((clsT cl).2.1 j).2.2.1) := by
  unfold fdA at h
  split at h
  · rename_i cl j hlk
    obtain ⟨k, q, hm, ha, h⟩ := rf_spec hI (fun k i h => by obtain ⟨n, b, hs, -, -⟩ := ofT_spec h; rw [hs]; simp) h
    obtain ⟨n, b, hs, h, -⟩ := ofT_spec h
    split at h
    · rename_i hbb
      rw [Bool.and_eq_true] at hbb
      have e1 : n = cl := Nat.eq_of_beq_eq_true hbb.1
      have e2 : j < nfl cl := by
        have := hbb.2
        unfold Nat.blt at this
        exact Nat.le_of_ble_eq_true this
      subst e1
      obtain ⟨h3, h4⟩ := ho.fl (lk_mem hlk)
      exact ⟨k, q, n, j, b, hm, ha, hs, h4, e2, h, h3⟩
    · exact h.elim
  · exact h.elim
theorem m_get {idx : Nat} (F : MF p R s m c nL c0 s0 E cc gk o D B) (hdec : decode cc pc = .ok (.getfield idx, 3)) {a : AV} {r : List AV} (h : fdA gk o.2.1 idx a (fun k q j t => match t with
      | 0 => Wx p l e R s m args below meth c Q nL c0 s0 E (pc + 3) L (vI (w.1 k q j) :: r) w n0
      | 1 => Wx p l e R s m args below meth c Q nL c0 s0 E (pc + 3) L (vI (w.1 k q j) :: r) w n0
      | 2 => Wx p l e R s m args below meth c Q nL c0 s0 E (pc + 3) L (vJ (w.2 k q j) :: r) w n0
      | t + 3 => Wx p l e R s m args below meth c Q nL c0 s0 E (pc + 3) L (vR t :: r) w n0)) : Wx p l e R s m args below meth c Q nL c0 s0 E pc L (a :: r) w n0 := by
  obtain ⟨hx, hb, -, hown, hSF, hok, hI, ho, -⟩ := F
  obtain ⟨k, q, cl, j, b, hm, ha, hs, h5, hj, h, hin⟩ := fdA_spec hI ho h
  intro hl H locs ls hH hL
  obtain ⟨q0, -, hq⟩ := wl_pos (w := w) hm
  rw [wcell_0 hs] at hq
  obtain ⟨hc, hN, -, -⟩ := cls_all cl h5
  show W p l e R s m args below meth c H locs _ _ Q (F0 m pc ls (cv E a :: r.map (cv E)))
  rw [ha]
  have hv : ((List.range (nfl cl)).map (fval E w k q cl))[j]? = some (fval E w k q cl j) := by simp [hj]
  refine va_get (C := (clsT cl).1) (T := (clsT cl).2.1) (N := (clsT cl).2.2) (ref := ((clsT cl).2.1 j).1) hx hb (Ts := u_ws (clsT cl).1 (clsT cl).2.1 (clsT cl).2.2) (fun w hw => hSF.2.1.use (cls_ws cl h5 w hw).1 (cls_ws cl h5 w hw).2 args) (fun w hw => hw) hown hSF.1 hH.1 q0 hq hc j (by rw [hN]; exact hj) (inT_use hSF.2.1 hin args) (fun x hx => hx) hv hdec ?_
  unfold fval
  revert h
  generalize ftc cl j = t
  match t with
  | 0 => exact fun h => h hl H locs ls hH hL
  | 1 => exact fun h => h hl H locs ls hH hL
  | 2 => exact fun h => h hl H locs ls hH hL
  | t + 3 => exact fun h => h hl H locs ls hH hL
theorem m_put {idx : Nat} (F : MF p R s m c nL c0 s0 E cc gk o D B) (hdec : decode cc pc = .ok (.putfield idx, 3)) {v a : AV} {r : List AV} (h : fdA gk o.2.1 idx a (fun k q j t => match t, v with
      | 0, .inl x => Wx p l e R s m args below meth c Q nL c0 s0 E (pc + 3) L r (wI w k q j x) n0
      | 1, .inl x => (x = 0 ∨ x = 1) ∧ Wx p l e R s m args below meth c Q nL c0 s0 E (pc + 3) L r (wI w k q j x) n0
      | 2, .inr (.inl x) => Wx p l e R s m args below meth c Q nL c0 s0 E (pc + 3) L r (wJ w k q j x) n0
      | _, _ => False)) : Wx p l e R s m args below meth c Q nL c0 s0 E pc L (v :: a :: r) w n0 := by
  obtain ⟨hx, hb, -, hown, hSF, hok, hI, ho, -⟩ := F
  obtain ⟨k, q, cl, j, b, hm, ha, hs, h5, hj, h, hin⟩ := fdA_spec hI ho h
  intro hl H locs ls hH hL
  obtain ⟨q0, hq0, hq⟩ := wl_pos (w := w) hm
  rw [wcell_0 hs] at hq
  obtain ⟨hc, hN, hty, hpd⟩ := cls_all cl h5
  have hty := hty j hj
  have hpd := hpd j hj
  have key : ∀ (V : Value) (w' : Wd), (clsT cl).2.1 j |>.2.2.2 = false → narrow (tyT cl j) V = V → fits (tyT cl j) V = true → (∀ a b : Nat, ¬ (a = k ∧ b = q) → wcell E w' a b = wcell E w a b) →
      ((List.range (nfl cl)).map (fval E w k q cl)).set j V = (List.range (nfl cl)).map (fval E w' k q cl) → Wx p l e R s m args below meth c Q nL c0 s0 E (pc + 3) L r w' n0 →
      W p l e R s m args below meth c H locs (c0 + n0) (s0 + 6 * n0) Q (F0 m pc ls (V :: cv E a :: r.map (cv E))) := by
    intro V w' hfin hn hfit ho2 hset hk
    have he := wl_set (w := w) (w' := w') hok hq0 ho2
    rw [wcell_0 hs, ← hset] at he
    rw [ha]
    refine va_put (C := (clsT cl).1) (T := (clsT cl).2.1) (N := (clsT cl).2.2) (ref := ((clsT cl).2.1 j).1) hx hb (Ts := u_ws (clsT cl).1 (clsT cl).2.1 (clsT cl).2.2) (fun w hw => hSF.2.1.use (cls_ws cl h5 w hw).1 (cls_ws cl h5 w hw).2 args) (fun w hw => hw) (tyT cl) (fun k hk => (cls_all cl h5).2.2.2 k (by rw [← hN]; exact hk)) (cls_nm cl h5) hown hSF.1 hH.1 hH.2.1 hH.2.2 q0 hq hc j (by rw [hN]; exact hj) (inT_use hSF.2.1 hin args) (fun x hx => hx) hfin hpd hn hfit (by simp; exact hj) hdec (fun H1 locs1 hP hD hS => ?_)
    rw [he] at hP hD
    exact hk hl H1 locs1 ls ⟨hP, hD, hS⟩ hL
  unfold tyOK at hty
  have hset0 : ∀ x, ftc cl j = 0 ∨ ftc cl j = 1 → _ := fun x z => fval_setI (E := E) (w := w) (k := k) (i := q) (x := x) z hj
  have hset2 : ∀ x, ftc cl j = 2 → _ := fun x z => fval_setJ (E := E) (w := w) (k := k) (i := q) (x := x) z hj
  revert h hty hset0 hset2
  generalize ftc cl j = t
  intro h hty hset0 hset2
  match t, v, h, hty, hset0, hset2 with
  | 0, .inl x, h, hty, hset0, hset2 =>
    simp only [Bool.and_eq_true, decide_eq_true_eq, Bool.not_eq_true'] at hty
    exact key (.int x) (wI w k q j x) hty.2 (by rw [hty.1]; rfl) (by rw [hty.1]; rfl) wI_other (hset0 x (Or.inl rfl)) h
  | 1, .inl x, h, hty, hset0, hset2 =>
    simp only [Bool.and_eq_true, decide_eq_true_eq, Bool.not_eq_true'] at hty
    exact key (.int x) (wI w k q j x) hty.2 (by rw [hty.1]; rcases h.1 with rfl | rfl <;> rfl) (by rw [hty.1]; rcases h.1 with rfl | rfl <;> rfl) wI_other (hset0 x (Or.inr rfl)) h.2
  | 2, .inr (.inl x), h, hty, hset0, hset2 =>
    simp only [Bool.and_eq_true, decide_eq_true_eq, Bool.not_eq_true'] at hty
    exact key (.long x) (wJ w k q j x) hty.2 (by rw [hty.1]; rfl) (by rw [hty.1]; rfl) wJ_other (hset2 x rfl) h
  | 0, .inr _, h, _, _, _ => exact h.elim
  | 1, .inr _, h, _, _, _ => exact h.elim
  | 2, .inl _, h, _, _, _ => exact h.elim
  | 2, .inr (.inr _), h, _, _, _ => exact h.elim
  | t + 3, _, h, _, _, _ => exact h.elim
theorem m_aald (F : MF p R s m c nL c0 s0 E cc gk o D B) (hdec : decode cc pc = .ok (.aaload, 1)) {i : Int32} {k : Nat} {r : List AV} (h : match gk k, shp k with
      | true, (5, m', b) => ∃ n : Nat, i = nI n ∧ n < m' ∧ Wx p l e R s m args below meth c Q nL c0 s0 E (pc + 1) L (vQ b n :: r) w n0
      | true, (6, m', b) => ∃ n : Nat, i = nI n ∧ n < m' ∧ Wx p l e R s m args below meth c Q nL c0 s0 E (pc + 1) L (vQ b n :: r) w n0
      | _, _ => False) : Wx p l e R s m args below meth c Q nL c0 s0 E pc L (.inl i :: .inr (.inr (.inl k)) :: r) w n0 := by
  obtain ⟨hx, hb, -, -, hSF, -, hI, -, -⟩ := F
  intro hl H locs ls hH hL
  have hsm := shp_small k
  split at h
  · rename_i m' b hg hs
    obtain ⟨n, rfl, hn, h⟩ := h
    rw [hs] at hsm
    have hm : (k, 0) ∈ eI E := hI k 0 hg (cnt_pos (by rw [hs]; simp))
    obtain ⟨q0, -, hq⟩ := wl_pos (w := w) hm
    rw [wcell_5 hs] at hq
    have hlt : (nI n).toNatClampNeg < m' := by rw [nI_clamp (by simp only at hsm; omega)]; exact hn
    have hin : vp_in (nI n) m' := vp_in_nI hn (by simp only at hsm; omega)
    refine W.aald (v := .ref (eA E b n)) (ty := .array .int) hx hb (hH.1 q0 _ hq) ((hSF.1.2 4 _ rfl).1 m' (fun j => va_rf (if j < m' then some (eA E b j) else none))) rfl (fun z => by cases z) (by show ¬ (nI n < 0 ∨ (arrV _ _ _).slots.size ≤ _); rw [arrV_size]; exact hin) (by show (arrV _ _ _).slots[_]? = _; rw [arrV_read _ _ hlt, nI_clamp (by simp only at hsm; omega)]; simp [hn, va_rf]) rfl rfl hdec ?_
    exact h hl H locs ls hH hL
  · rename_i m' b hg hs
    obtain ⟨n, rfl, hn, h⟩ := h
    rw [hs] at hsm
    have hm : (k, 0) ∈ eI E := hI k 0 hg (cnt_pos (by rw [hs]; simp))
    obtain ⟨q0, -, hq⟩ := wl_pos (w := w) hm
    rw [wcell_6 hs] at hq
    have hlt : (nI n).toNatClampNeg < m' := by rw [nI_clamp (by simp only at hsm; omega)]; exact hn
    have hin : vp_in (nI n) m' := vp_in_nI hn (by simp only at hsm; omega)
    refine W.aald (v := .ref (eA E b n)) (ty := .array .long) hx hb (hH.1 q0 _ hq) ((hSF.1.2 5 _ rfl).1 m' (fun j => va_rf (if j < m' then some (eA E b j) else none))) rfl (fun z => by cases z) (by show ¬ (nI n < 0 ∨ (arrV _ _ _).slots.size ≤ _); rw [arrV_size]; exact hin) (by show (arrV _ _ _).slots[_]? = _; rw [arrV_read _ _ hlt, nI_clamp (by simp only at hsm; omega)]; simp [hn, va_rf]) rfl rfl hdec ?_
    exact h hl H locs ls hH hL
  · exact h.elim
end
