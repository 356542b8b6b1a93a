/-! a method's contract out of the abstract machine -/
def exN : List String := ["java/lang/RuntimeException", "java/lang/Exception"]
def twOK (own : String) (cc : ByteArray) (q : Nat × TW) : Bool :=
  decide (decode cc q.1 = .ok (.new q.2.2.1, 3)) && decide (decode cc (q.1 + 3) = .ok (.dup, 1)) && decide (decode cc (q.1 + 4) = .ok (.ldc q.2.2.2.1, 2)) && decide (decode cc (q.1 + 6) = .ok (.invokespecial q.2.2.2.2.1, 3)) && decide (decode cc (q.1 + 9) = .ok (.athrow, 1)) &&
  (inB (.classLink own q.2.2.1 q.2.1) && inB (.initialized q.2.1) && (vx_atS own q.2.2.2.2.1 q.2.1 exN).all inB && Bundle.fit q.2.1 && decide ((q.2.2.2.1, q.2.2.2.2.2.1) ∈ strsL) && decide (own = RX4) &&
  vx_ot (.classLink own q.2.2.1 q.2.1) && vx_ot (.initialized q.2.1) && (vx_atS own q.2.2.2.2.1 q.2.1 exN).all vx_ot)
theorem exN_fit : ∀ n ∈ exN, Bundle.fit n = true := by decide
section
variable {p : Program} {l : Launch} {e : Env} {s : State} {m : MethodId} {args : Array Value} {below : List Frame} {meth : Method} {c : Code} {E : En} {d b : Nat} {po : Option AV → Wd → Prop} {xo : String → Wd → Prop} {nL : Nat} {ret : Option FieldType} {cc : ByteArray} {o : OT} {tw : List (Nat × TW)}
abbrev mQ (below : List Frame) (E : En) (po : Option AV → Wd → Prop) (xo : String → Wd → Prop) (args : Array Value) (s : State) (b : Nat) : State → Prop := vx_MQ below (Qx E po s.heap.size) (Xx E xo s.heap.size) args s b (6 * b) (AE E s.heap.size)
theorem RET.of (hx : p.tables.exec = Jvm.exec) (hb : c.code = cc) (hr : meth.sig.returnType = ret) (hlocks : meth.locks = false) : RET p l e (rmo d b) s m args below meth c (mQ below E po xo args s b) 0 0 E cc b ret po := by
  refine ⟨?_, ?_, ?_⟩
  · intro pc x w n H locs ls hdec hH hn hrI hpo
    refine W.widen (k := b) (n := 6 * b) (by omega) (by omega) (vx_ret ?_)
    have hq : ∀ t : State, t.heap = H → s.WarmedH t.vm → Qx E po s.heap.size args s (.returned (some (.int x))) t := fun t ht _ => ⟨⟨some (vI x), w, rfl, hpo, by rw [ht]; exact hH.1⟩, hH.2.2.F ht⟩
    unfold retI at hrI
    split at hrI
    · exact W.zret hx hb hr rfl hq hH.2.2.2.2 hdec hlocks
    · exact W.zret hx hb hr (by rcases hrI with rfl | rfl <;> rfl) hq hH.2.2.2.2 hdec hlocks
    · exact hrI.elim
  · intro pc x w n H locs ls hdec hH hn hrI hpo
    refine W.widen (k := b) (n := 6 * b) (by omega) (by omega) (vx_ret ?_)
    have hq : ∀ t : State, t.heap = H → s.WarmedH t.vm → Qx E po s.heap.size args s (.returned (some (.long x))) t := fun t ht _ => ⟨⟨some (vJ x), w, rfl, hpo, by rw [ht]; exact hH.1⟩, hH.2.2.F ht⟩
    exact W.lret hx hb (hr.trans hrI) hq hH.2.2.2.2 hdec hlocks
  · intro pc w n H locs ls hdec hH hn hrI hpo
    refine W.widen (k := b) (n := 6 * b) (by omega) (by omega) (vx_ret ?_)
    have hq : ∀ t : State, t.heap = H → s.WarmedH t.vm → Qx E po s.heap.size args s (.returned none) t := fun t ht _ => ⟨⟨none, w, rfl, hpo, by rw [ht]; exact hH.1⟩, hH.2.2.F ht⟩
    exact W.vret hx hb (hr.trans hrI) hq hH.2.2.2.2 hdec hlocks
theorem NEWS.of (hl : l.stackTraces = false) (hx : p.tables.exec = Jvm.exec) (hb : c.code = cc) (hml : c.maxLocals = nL) (hown : s.vm.findClass o.1 = some m.cls) (hlocks : meth.locks = false) (hex : ∀ x ∈ c.exceptionTable.toList, False) (hSF : SF E s s.heap.size s.heap) (htw : tw.all (twOK o.1 cc) = true) :
    NEWS p l e (rmo d b) s m args below meth c (mQ below E po xo args s b) nL 0 0 E tw b xo := by
  intro pc t w n H locs ls hlk hH hsz hn hxo
  have h := List.all_eq_true.mp htw _ (lk_mem hlk)
  unfold twOK at h
  simp only [Bool.and_eq_true, decide_eq_true_eq] at h
  obtain ⟨⟨⟨⟨⟨d0, d3⟩, d4⟩, d6⟩, d9⟩, ⟨⟨⟨⟨⟨⟨⟨⟨w1, w2⟩, w3⟩, w4⟩, w5⟩, w6⟩, w7⟩, w8⟩, w9⟩⟩ := h
  obtain ⟨sa, hsa⟩ := hSF.2.2.1.1 _ w5
  rw [← w6] at hsa
  refine vx_throwS (names := exN) (A := AE E s.heap.size) (text := t.2.2.2.2.1) hx hb hl hown w4 exN_fit (inT_use hSF.2.1 (inB_T w1) args) (inT_use hSF.2.1 (inB_T w2) args) hsa (fun w hw => inT_use hSF.2.1 (inB_T (List.all_eq_true.mp w3 w hw)) args) ?_ hSF.2.2.2.1 hSF.2.2.2.2 hH.2.2 (hsz.trans hml.symm) d0 d3 d4 d6 d9 (fun x hx => (hex x hx).elim) ?_ ?_ ?_ ?_ hlocks ?_ hH.2.2.2.2 ?_ ?_
  · intro w hw
    rcases List.mem_cons.mp hw with rfl | hw
    · exact w7
    rcases List.mem_cons.mp hw with rfl | hw
    · exact w8
    exact List.all_eq_true.mp w9 w hw
  · show 2 + 3 < d + 8
    omega
  · show 0 + (13 * (2 + 1) + 43) ≤ 64 * d + 128
    omega
  · show 0 + n + 1 ≤ b
    omega
  · show 0 + 6 * n + 6 ≤ 6 * b
    omega
  · intro t hvm hz hk
    refine ⟨w, hxo, hH.1.kept (fun k q hq => hk _ (hH.1 k q hq).lt), ?_⟩
    exact ⟨Nat.le_trans hH.2.2.1 hz, fun q h1 h2 => by rw [hk q (Nat.lt_of_lt_of_le h1 hH.2.2.1)]; exact hH.2.2.2.1 q h1 h2⟩
  · omega
  · omega
theorem XK.of (hlocks : meth.locks = false) (hex : ∀ x ∈ c.exceptionTable.toList, False) : XK p l e (rmo d b) s m args below meth c (mQ below E po xo args s b) nL 0 0 E (fun _ _ => none) b xo := by
  intro pc X u n H1 locs1 L ls rest ce q9 hn hl hL hH hce hcv hcl hxo
  exact vx_out (fun x hx => (hex x hx).elim) hlocks hce hcv hcl (fun t ht _ => ⟨u, hxo, by rw [ht]; exact hH.1, hH.2.2.F ht⟩) hH.2.2.2.2 (by omega) (by omega)
end
/-- the cells of the kinds that gk names are there, and apart -/
def EK (E : En) (gk : Nat → Bool) : Prop := eOK E ∧ ∀ k i : Nat, gk k = true → i < cnt k → (k, i) ∈ eI E
theorem Ctr.of {l : Launch} {E : En} {gk : Nat → Bool} {o : OT} {tw : List (Nat × TW)} {d b : Nat} {mi : MI} {pg : List (Nat × Instr × Nat)} {As : List AV} {w : Wd} {po : Option AV → Wd → Prop} {xo : String → Wd → Prop}
    (hl : l.stackTraces = false) (hE : EK E gk) (ho : otOK o) (hpg : pg.all (pgOK mi.2.1) = true) (htw : tw.all (twOK o.1 mi.2.1) = true) (hy : plainName mi.1.cls = true) (hcls : mi.1.cls = o.1) (hhh : mi.2.2.2.2.2.2 = []) (hlen : (enL As).length ≤ mi.2.2.1)
    (h : ∀ V, Clo l E none gk o tw (fun _ _ => none) d b mi.2.2.2.1 po xo pg V → V 0 (padL mi.2.2.1 (enL As)) [] w 0) : Ctr l E d b mi As w po xo := by
  intro sz
  have hw : wsOf mi = [.code mi.1 mi.2.1 mi.2.2.1 mi.2.2.2.1] := by unfold wsOf; rw [hhh]
  refine vx_ofW (cc := mi.2.1) (maxL := mi.2.2.1) (ret := mi.2.2.2.1) hy hw ?_
  intro p e s m args below meth c s₁ B hml hex hv
  obtain ⟨rfl, rfl, hP, hD, hSF⟩ := hv
  have hown : s.vm.findClass o.1 = some m.cls := by rw [← hcls]; exact findClass_of_methodNamed B.named
  have hlocks := B.notSynchronized
  have F : MF p (rmo d b) s m c mi.2.2.1 0 0 E mi.2.1 gk o d b := ⟨B.exec, B.bytes, hml, hown, hSF, hE.1, hE.2, ho, Nat.le_refl _, Nat.le_refl _, by show 0 + b ≤ b; omega, by show 0 + 6 * b ≤ 6 * b; omega⟩
  have hW := h (Wx p l e (rmo d b) s m (As.map (cv E)).toArray below meth c (mQ below E po xo (As.map (cv E)).toArray s b) mi.2.2.1 0 0 E) (fun pc x hlk L S w c hst => by
    obtain ⟨ins, tg⟩ := x
    exact stp_sound (sc := none) F (XK.of hlocks hex) (RET.of B.exec B.bytes B.returns hlocks) (NEWS.of hl B.exec B.bytes hml hown hlocks hex hSF htw) trivial (List.all_eq_true.mp hpg _ (lk_mem hlk)) hst)
  rw [lg_entry_eq]
  exact hW (by unfold padL; rw [List.length_append, List.length_replicate]; omega) s.heap [] _ ⟨hP, wl_DA _ hD, va_S.rf⟩ (LR.entry E As hlen)
theorem Clo.go {l : Launch} {E : En} {sc : Option (Nat × Nat × (Nat → Int32))} {gk : Nat → Bool} {o : OT} {tw : List (Nat × TW)} {hd : Nat → String → Option Nat} {D B : Nat} {ret : Option FieldType} {po : Option AV → Wd → Prop} {xp : String → Wd → Prop} {pg : List (Nat × Instr × Nat)} {V : Nat → List (Option AV) → List AV → Wd → Nat → Prop}
    (hV : Clo l E sc gk o tw hd D B ret po xp pg V) {pc : Nat} {L : List (Option AV)} {S : List AV} {w : Wd} {c : Nat} {x : Instr × Nat} (hx : lk pg pc = some x) (h : stp l E sc gk o tw hd D B ret po xp V x.1 x.2 pc L S w c) : V pc L S w c := hV pc x hx L S w c h
