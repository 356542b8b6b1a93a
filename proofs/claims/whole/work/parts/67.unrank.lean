/-! the class's unrank -/
def nx_at (own : String) (ic : Nat) (X : String) (ix : Nat) (rx : ByteArray) (names : List String) : List Cond := (Bundle.ownAtomsX own ic X ix rx names).filter vx_no
section
variable {p : Program} {l : Launch} {e : Env} {R : Room} {s : State} {m : MethodId} {args : Array Value} {below : List Frame} {meth : Method} {c : Code} {H : Heap} {locs : List Loc} {cells slots : Nat} {ls : Array Slot} {rest : List Value} {Qc : Array Value → State → Outcome → State → Prop} {XC : String → State → State → Prop} {free : Nat → Prop}
theorem nx_throw {cc : ByteArray} {pc : Nat} (hexec : p.tables.exec = Jvm.exec) (hb : c.code = cc) (hl : l.stackTraces = false) {own cls text : String} {names : List String} {ik is ic ix mc ms sa : Nat} {rx : ByteArray} {A : Nat → Prop}
    (x0 : decode rx 0 = .ok (.aload_n 0, 1)) (x1 : decode rx 1 = .ok (.aload_n 1, 1)) (x2 : decode rx 2 = .ok (.invokespecial ix, 3)) (x5 : decode rx 5 = .ok (.return_, 1))
    (hown : s.vm.findClass own = some m.cls) (hcls : Bundle.fit cls = true) (hnames : ∀ n ∈ names, Bundle.fit n = true)
    (hk : (Cond.classLink own ik cls).before args s = true) (hini : (Cond.initialized cls).before args s = true) (hstr : vk_R own is text sa s) (hat : ∀ w ∈ nx_at own ic cls ix rx names, w.before args s = true)
    (hgood : ∀ w ∈ Cond.classLink own ik cls :: Cond.initialized cls :: nx_at own ic cls ix rx names, vx_ot w = true)
    (hU : vx_Zq Bundle.tN "UNASSIGNED_STACK" Bundle.steD A s s.heap) (hN : vx_Zq Bundle.tN "SUPPRESSED_SENTINEL" Bundle.listD A s s.heap) (hS : va_S A s.heap H locs) (hsize : ls.size = c.maxLocals)
    (d0 : decode cc pc = .ok (.new ik, 3)) (d3 : decode cc (pc + 3) = .ok (.dup, 1)) (d4 : decode cc (pc + 4) = .ok (.ldc is, 2)) (d6 : decode cc (pc + 6) = .ok (.invokespecial ic, 3)) (d9 : decode cc (pc + 9) = .ok (.athrow, 1))
    (hout : ∀ x ∈ c.exceptionTable.toList, covers x (pc + 9) = false)
    (hRframes : names.length + 3 < R.frames) (hRlocals : (rest.map fun v => v.category).sum + (13 * (names.length + 1) + 43) ≤ R.locals) (hRcells : cells + 1 ≤ R.cells) (hRslots : slots + 6 ≤ R.slots) (hlocks : meth.locks = false)
    (hx : ∀ t : State, s.vm.Alike t.vm → H.size ≤ t.heap.size → (∀ q : Nat, q < H.size → t.heap[q]? = H[q]?) → XC cls s t)
    (hf : ∀ z ∈ locs, free z.base) (hc : cells + 1 ≤ mc) (hs : slots + 6 ≤ ms) :
    W p l e R s m args below meth c H locs cells slots (vx_MQ below Qc XC args s mc ms free) (F0 m pc ls rest) := by
  intro T hT X
  have htr : e.platform.stackTraces = false := (show e.platform.stackTraces = l.stackTraces by rw [X.admits.platform]).trans hl
  have Y := vx_rebase X (R' := { frames := R.frames, locals := R.locals, cells := 1, slots := 6 }) (Nat.le_refl _) (Nat.le_refl _) hRcells hRslots
  obtain ⟨s', hA⟩ : ∃ z, z = (T.setVm s.vm).setFrames (.invoking m args :: below) := ⟨_, rfl⟩
  rw [← hA] at Y
  have hvm : s'.vm = s.vm := by rw [hA]; rfl
  have hhp : s'.heap = H := by rw [hA]; exact hT
  have hW0 : s.WarmedH s'.vm := by rw [hvm]; exact State.WarmedH.refl s
  have hat' : ∀ w ∈ nx_at own ic cls ix rx names, w.before args s' = true := fun w hw => vx_ot_at hW0 hvm.symm (hgood w (List.mem_cons_of_mem _ (List.mem_cons_of_mem _ hw))) (hat w hw)
  have hk' : (Cond.classLink own ik cls).before args s' = true := vx_ot_at hW0 hvm.symm (hgood _ List.mem_cons_self) hk
  have hini' : (Cond.initialized cls).before args s' = true := vx_ot_at hW0 hvm.symm (hgood _ (List.mem_cons_of_mem _ List.mem_cons_self)) hini
  have hU' : vx_Zq Bundle.tN "UNASSIGNED_STACK" Bundle.steD A s' s'.heap := by rw [hhp]; exact vx_Zq.moved hW0.alike (hU.kept hS.2.1)
  have hN' : vx_Zq Bundle.tN "SUPPRESSED_SENTINEL" Bundle.listD A s' s'.heap := by rw [hhp]; exact vx_Zq.moved hW0.alike (hN.kept hS.2.1)
  have h : ∀ w ∈ Bundle.ownAtomsX own ic cls ix rx names, w.before args s' = true := vx_own hat' (vx_isRefq hU'.1) (vx_isRefq hN'.1) hU'.2.word hN'.2.word
  have hown' : s'.vm.findClass own = some m.cls := by rw [hvm]; exact hown
  have hins : (Cond.instantiable cls 6).before args s' = true := h _ (by simp [Bundle.ownAtomsX])
  obtain ⟨vm₁, cX, kX, hfX, hkX, -, -, X₁, st1⟩ := Y.newCold hexec (own := own) (C := cls) (index := ik) (n := 6) hown' hk' hins hini'
    (g := F0 m pc ls rest) rfl (by rw [hb]; exact d0) (Nat.le_refl _) (Nat.le_refl _)
  generalize hT1 : (T.setVm vm₁).pushCell { cls := cX, slots := kX.instanceTypes.map defaultValue, vm := .none } = T1 at X₁ st1
  have hcat : (Value.ref T.heap.size).category = 1 := rfl
  have hcellA : T1.heap[T.heap.size]? = some (freshCell cX kX) := by rw [← hT1]; exact State.heap_pushCell_size _ _
  have d3' : decode c.code (pc + 3) = .ok (.dup, 1) := by rw [hb]; exact d3
  have d4' : decode c.code (pc + 4) = .ok (.ldc is, 2) := by rw [hb]; exact d4
  have hstr' : vk_R own is text sa s' := vk_R.warm hW0 hstr
  obtain ⟨U, hsteps, hrun, hend, hW, hsame, ce, hce, hO1, hO2⟩ := nx_ctor X₁ hexec htr (own := own) (cls := cls) (names := names) (ic := ic) x0 x1 x2 x5 hown' hcls hnames h (fun x hx => nomatch hx) hfX hkX hcellA (by rw [hhp, hT]; exact Nat.le_refl _) (msg := .ref sa) rfl
    (g := { method := m, pc := pc + 6, locals := ls, stack := .ref sa :: .ref T.heap.size :: .ref T.heap.size :: rest, locked := none }) rfl hsize rfl rfl (rest := rest) rfl
    (by rw [hb]; exact d6) (by rw [hb]; exact d9) hout hRframes (by simp only [List.map_cons, List.sum_cons, hcat]; omega) hlocks
  obtain ⟨f1, f2⟩ := vx_frame hsame
  rw [hhp] at f1 f2
  have hWs : s.WarmedH U.vm := State.WarmedH.trans hW0 hW
  have hcl : s.vm.findClass cls = some ce.cls := by
    rw [hvm] at hO1
    exact hO1
  have hall : s.sameButNew ({ U with vm := s.vm } : State) locs mc ms := by
    subst hA
    obtain ⟨e1, e2⟩ := hsame
    rw [State.setFrames_setFrames] at e1
    have h2 : (T.setVm s.vm).sameButNew ({ U with vm := s.vm } : State) [] (0 + 1) (0 + 6) := ⟨e1, e2⟩
    have h3 := X.same.trans h2
    rw [List.append_nil] at h3
    exact h3.mono hc hs
  refine ⟨U, ?_, .threw T.heap.size, hrun, hend, Or.inr ⟨T.heap.size, rfl, cls, ce, locs, hx U hWs.alike f1 (fun q hq => f2 q hq (fun z hz => nomatch hz)), hce, hO2, hcl, hWs, hall, hf⟩⟩
  refine st1 _ ?_
  show Steps p.tables e below (T1.setTop { method := m, pc := pc + 3, locals := ls, stack := .ref T.heap.size :: rest, locked := none }) _
  jvm_step X₁.here [X₁.here.top, hexec, d3', Value.category]
  exact X₁.ldcString hexec (own := own) (text := text) (index := is) (a := sa) hown' hstr'.1 hstr'.2
    (g := { method := m, pc := pc + 4, locals := ls, stack := .ref T.heap.size :: .ref T.heap.size :: rest, locked := none }) rfl d4' _ hsteps
end
def twOKn (own : String) (cc : ByteArray) (q : Nat × TW) : Bool :=
  decide (decode cc q.1 = .ok (.new q.2.2.1, 3)) && decide (decode cc (q.1 + 3) = .ok (.dup, 1)) && decide (decode cc (q.1 + 4) = .ok (.ldc q.2.2.2.1, 2)) && decide (decode cc (q.1 + 6) = .ok (.invokespecial q.2.2.2.2.1, 3)) && decide (decode cc (q.1 + 9) = .ok (.athrow, 1)) &&
  (inB (.classLink own q.2.2.1 q.2.1) && inB (.initialized q.2.1) && (nx_at own q.2.2.2.2.1 q.2.1 13 rx13 exN).all inB && Bundle.fit q.2.1 && decide ((q.2.2.2.1, q.2.2.2.2.2.1) ∈ strsL) && decide (own = RX4) &&
  vx_ot (.classLink own q.2.2.1 q.2.1) && vx_ot (.initialized q.2.1) && (nx_at own q.2.2.2.2.1 q.2.1 13 rx13 exN).all vx_ot)
theorem rx13_d : decode rx13 0 = .ok (.aload_n 0, 1) ∧ decode rx13 1 = .ok (.aload_n 1, 1) ∧ decode rx13 2 = .ok (.invokespecial 13, 3) ∧ decode rx13 5 = .ok (.return_, 1) := by decide +kernel
section
variable {p : Program} {l : Launch} {e : Env} {s : State} {m : MethodId} {args : Array Value} {below : List Frame} {meth : Method} {c : Code} {E : En} {d b : Nat} {po : Option AV → Wd → Prop} {xo : String → Wd → Prop} {nL : Nat} {cc : ByteArray} {o : OT} {tw : List (Nat × TW)}
theorem NEWS.ofN (hl : l.stackTraces = false) (hx : p.tables.exec = Jvm.exec) (hb : c.code = cc) (hml : c.maxLocals = nL) (hown : s.vm.findClass o.1 = some m.cls) (hlocks : meth.locks = false) (hex : ∀ x ∈ c.exceptionTable.toList, False) (hSF : SF E s s.heap.size s.heap) (htw : tw.all (twOKn o.1 cc) = true) :
    NEWS p l e (rmo d b) s m args below meth c (mQ below E po xo args s b) nL 0 0 E tw b xo := by
  intro pc t w n H locs ls hlk hH hsz hn hxo
  have h := List.all_eq_true.mp htw _ (lk_mem hlk)
  unfold twOKn at h
  simp only [Bool.and_eq_true, decide_eq_true_eq] at h
  obtain ⟨⟨⟨⟨⟨d0, d3⟩, d4⟩, d6⟩, d9⟩, ⟨⟨⟨⟨⟨⟨⟨⟨w1, w2⟩, w3⟩, w4⟩, w5⟩, w6⟩, w7⟩, w8⟩, w9⟩⟩ := h
  obtain ⟨sa, hsa⟩ := hSF.2.2.1.1 _ w5
  rw [← w6] at hsa
  obtain ⟨x0, x1, x2, x5⟩ := rx13_d
  refine nx_throw (names := exN) (A := AE E s.heap.size) (text := t.2.2.2.2.1) hx hb hl x0 x1 x2 x5 hown w4 exN_fit (inT_use hSF.2.1 (inB_T w1) args) (inT_use hSF.2.1 (inB_T w2) args) hsa (fun w hw => inT_use hSF.2.1 (inB_T (List.all_eq_true.mp w3 w hw)) args) ?_ hSF.2.2.2.1 hSF.2.2.2.2 hH.2.2 (hsz.trans hml.symm) d0 d3 d4 d6 d9 (fun x hx => (hex x hx).elim) ?_ ?_ ?_ ?_ hlocks ?_ hH.2.2.2.2 ?_ ?_
  · intro w hw
    rcases List.mem_cons.mp hw with rfl | hw
    · exact w7
    rcases List.mem_cons.mp hw with rfl | hw
    · exact w8
    exact List.all_eq_true.mp w9 w hw
  · show 2 + 3 < d + 8
    omega
  · show 0 + (13 * (2 + 1) + 43) ≤ 64 * d + 128
    omega
  · show 0 + n + 1 ≤ b
    omega
  · show 0 + 6 * n + 6 ≤ 6 * b
    omega
  · intro t hvm hz hk
    refine ⟨w, hxo, hH.1.kept (fun k q hq => hk _ (hH.1 k q hq).lt), ?_⟩
    exact ⟨Nat.le_trans hH.2.2.1 hz, fun q h1 h2 => by rw [hk q (Nat.lt_of_lt_of_le h1 hH.2.2.1)]; exact hH.2.2.2.1 q h1 h2⟩
  · omega
  · omega
end
theorem Ctr.ofN {l : Launch} {E : En} {gk : Nat → Bool} {o : OT} {tw : List (Nat × TW)} {d b : Nat} {mi : MI} {pg : List (Nat × Instr × Nat)} {As : List AV} {w : Wd} {po : Option AV → Wd → Prop} {xo : String → Wd → Prop}
    (hl : l.stackTraces = false) (hE : EK E gk) (ho : otOK o) (hpg : pg.all (pgOK mi.2.1) = true) (htw : tw.all (twOKn o.1 mi.2.1) = true) (hy : plainName mi.1.cls = true) (hcls : mi.1.cls = o.1) (hhh : mi.2.2.2.2.2.2 = []) (hlen : (enL As).length ≤ mi.2.2.1)
    (h : ∀ V, Clo l E none gk o tw (fun _ _ => none) d b mi.2.2.2.1 po xo pg V → V 0 (padL mi.2.2.1 (enL As)) [] w 0) : Ctr l E d b mi As w po xo := by
  intro sz
  have hw : wsOf mi = [.code mi.1 mi.2.1 mi.2.2.1 mi.2.2.2.1] := by unfold wsOf; rw [hhh]
  refine vx_ofW (cc := mi.2.1) (maxL := mi.2.2.1) (ret := mi.2.2.2.1) hy hw ?_
  intro p e s m args below meth c s₁ B hml hex hv
  obtain ⟨rfl, rfl, hP, hD, hSF⟩ := hv
  have hown : s.vm.findClass o.1 = some m.cls := by rw [← hcls]; exact findClass_of_methodNamed B.named
  have hlocks := B.notSynchronized
  have F : MF p (rmo d b) s m c mi.2.2.1 0 0 E mi.2.1 gk o d b := ⟨B.exec, B.bytes, hml, hown, hSF, hE.1, hE.2, ho, Nat.le_refl _, Nat.le_refl _, by show 0 + b ≤ b; omega, by show 0 + 6 * b ≤ 6 * b; omega⟩
  have hW := h (Wx p l e (rmo d b) s m (As.map (cv E)).toArray below meth c (mQ below E po xo (As.map (cv E)).toArray s b) mi.2.2.1 0 0 E) (fun pc x hlk L S w c hst => by
    obtain ⟨ins, tg⟩ := x
    exact stp_sound (sc := none) F (XK.of hlocks hex) (RET.of B.exec B.bytes B.returns hlocks) (NEWS.ofN hl B.exec B.bytes hml hown hlocks hex hSF htw) trivial (List.all_eq_true.mp hpg _ (lk_mem hlk)) hst)
  rw [lg_entry_eq]
  exact hW (by unfold padL; rw [List.length_append, List.length_replicate]; omega) s.heap [] _ ⟨hP, wl_DA _ hD, va_S.rf⟩ (LR.entry E As hlen)
theorem twX4_unrank : tX4_unrank.all (twOKn RX4 cX4_unrank) = true := by decide +kernel
section
variable {l : Launch} {E : En}
theorem c_unrank {w : Wd} {A : AS} {x : Int64} {po : Option AV → Wd → Prop} {xo : String → Wd → Prop} (G : GC l E) (hw : KI w A) (h1 : ∀ f, Gen A.2.1 f → x = lN (rN A.2.1 f) → ∀ u, KI u (A.1, A.2.1, f, A.2.2.2.1, A.2.2.2.2) → Sm clK w u → po none u) (h2 : (x < 0 ∨ lN (oN A.2.1) ≤ x) → xo xNS w) : Ctr l E 4 1 mX4_unrank [vR 0, vJ x] w po xo := by
  refine Ctr.ofN (tw := tX4_unrank) G.1 G.2 oX4_ok pgX4_unrank twX4_unrank (by decide) rfl rfl (Nat.le_of_ble_eq_true rfl) ?_
  intro V hV
  obtain ⟨⟨n1, n2, n3, n4, n5, n6⟩, mv, -⟩ := hw.1
  have hpm : ∀ t ∈ A.2.1, Pm t := fun t ht => (n2.2 t ht).1
  obtain ⟨s, hc, hcp⟩ := hw.1.2.2.1.cp
  have h62 := oN_lt hc hcp
  iterate 4 refine hV.go rfl ?_
  refine And.intro (fun hlt => ?_) (fun hge => ?_)
  · have hlt : x < 0 := (lg_cmp_lt _ _).mp hlt
    refine hV.go rfl ?_
    exact ⟨h2 (Or.inl hlt), Nat.le_refl _⟩
  · have hnn : ¬ x < 0 := fun z => hge ((lg_cmp_lt _ _).mpr z)
    iterate 5 refine hV.go rfl ?_
    refine And.intro (callP_v (c_countFrom (k0 := 0) G hc (by decide)) (by decide) (by decide) ?_) trivial
    rw [hcp.z_cfr 12 0 rfl]
    iterate 2 refine hV.go rfl ?_
    refine And.intro (fun hlt => ?_) (fun hge2 => ?_)
    · have hlt : x < lN (oN A.2.1) := (lg_cmp_lt _ _).mp hlt
      obtain ⟨r, hr63, rfl⟩ := pk_lOf hnn
      rw [pk_lLT hr63 (by omega)] at hlt
      obtain ⟨a, b, -, d⟩ := hcp.z_rwL (Gr.gen hpm) 12 0 r idp rfl (Gen.id _) hlt
      iterate 5 refine hV.go rfl ?_
      refine And.intro (callP_v (c_rowOf (r := r) G hc hcp.1 (by omega) a) (by decide) (by decide) ?_) trivial
      repeat refine hV.go rfl ?_
      exact ⟨h1 _ b (by rw [show rN A.2.1 _ = _ from d]) _ (hw.tb (Gen.lw n2.2 b)) (Sm.wJ (k := 0) Sm.rf (by decide)), by decide⟩
    · refine hV.go rfl ?_
      exact ⟨h2 (Or.inr (Int64.not_lt.mp (fun z => hge2 ((lg_cmp_lt _ _).mpr z)))), Nat.le_refl _⟩
end
