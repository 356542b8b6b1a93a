/-! a method that calls Math.min and Math.max: the library's own contracts stand for these two -/
theorem Ctr.ofM {l : Launch} {E : En} {gk : Nat → Bool} {d b : Nat} {mi : MI} {pg : List (Nat × Instr × Nat)} {As : List AV} {w : Wd} {po : Option AV → Wd → Prop} {xo : String → Wd → Prop}
    (hl : l.stackTraces = false) (hE : EK E gk) (hpg : pg.all (pgOK mi.2.1) = true) (hy : plainName mi.1.cls = true) (hcls : mi.1.cls = oX4.1) (hhh : mi.2.2.2.2.2.2 = []) (hlen : (enL As).length ≤ mi.2.2.1)
    (h : ∀ V, Clo l E none gk oX4 [] (fun _ _ => none) d b mi.2.2.2.1 po xo pg V →
      (∀ pc L S u c x y, decode mi.2.1 pc = .ok (.invokestatic 243, 3) → catS S ≤ 8 → c ≤ b → V (pc + 3) L (vI (if y < x then y else x) :: S) u c → V pc L (vI y :: vI x :: S) u c) →
      (∀ pc L S u c x y, decode mi.2.1 pc = .ok (.invokestatic 249, 3) → catS S ≤ 8 → c ≤ b → V (pc + 3) L (vI (if x < y then y else x) :: S) u c → V pc L (vI y :: vI x :: S) u c) → V 0 (padL mi.2.2.1 (enL As)) [] w 0) : Ctr l E d b mi As w po xo := by
  intro sz
  have hw : wsOf mi = [.code mi.1 mi.2.1 mi.2.2.1 mi.2.2.2.1] := by unfold wsOf; rw [hhh]
  refine vx_ofW (cc := mi.2.1) (maxL := mi.2.2.1) (ret := mi.2.2.2.1) hy hw ?_
  intro p e s m args below meth c s₁ B hml hex hv
  obtain ⟨rfl, rfl, hP, hD, hSF⟩ := hv
  have hown : s.vm.findClass oX4.1 = some m.cls := by rw [← hcls]; exact findClass_of_methodNamed B.named
  have hlocks := B.notSynchronized
  have F : MF p (rmo d b) s m c mi.2.2.1 0 0 E mi.2.1 gk oX4 d b := ⟨B.exec, B.bytes, hml, hown, hSF, hE.1, hE.2, oX4_ok, Nat.le_refl _, Nat.le_refl _, by show 0 + b ≤ b; omega, by show 0 + 6 * b ≤ 6 * b; omega⟩
  have hW := h (Wx p l e (rmo d b) s m (As.map (cv E)).toArray below meth c (mQ below E po xo (As.map (cv E)).toArray s b) mi.2.2.1 0 0 E) (fun pc x hlk L S w c hst => by
    obtain ⟨ins, tg⟩ := x
    exact stp_sound (sc := none) F (XK.of hlocks hex) (RET.of B.exec B.bytes B.returns hlocks) (NEWS.of hl B.exec B.bytes hml hown hlocks hex hSF rfl) trivial (List.all_eq_true.mp hpg _ (lk_mem hlk)) hst)
    (fun pc L S u n x y hdec hcat hn hk hl H locs ls hH hL => by
      refine va_mmin (own := oX4.1) B.exec B.bytes (hml.trans hL.1.symm) hown (inT_use hSF.2.1 (ocX4_243 _ (List.mem_cons_self ..)) _) (inT_use hSF.2.1 (ocX4_243 _ (by simp [miW, mJ9_min_7cf53]; exact Or.inr rfl)) _) (inT_use hSF.2.1 (ocX4_243 _ (List.mem_cons_of_mem _ (List.mem_cons_self ..))) _) (inT_use hSF.2.1 (ocX4_243 _ (List.mem_cons_of_mem _ (List.mem_cons_of_mem _ (List.mem_cons_self ..)))) _) ?_ ?_ ?_ ?_ hdec ?_
      · show 1 ≤ d + 8
        omega
      · show _ + 13 ≤ 64 * d + 128
        rw [catS_sum]
        omega
      · show 0 + n ≤ b
        omega
      · show 0 + 6 * n ≤ 6 * b
        omega
      · exact hk hl H locs ls hH hL)
    (fun pc L S u n x y hdec hcat hn hk hl H locs ls hH hL => by
      refine va_mmax (own := oX4.1) B.exec B.bytes (hml.trans hL.1.symm) hown (inT_use hSF.2.1 (ocX4_249 _ (List.mem_cons_self ..)) _) (inT_use hSF.2.1 (ocX4_249 _ (by simp [miW, mJ9_max_7cf53]; exact Or.inr rfl)) _) (inT_use hSF.2.1 (ocX4_249 _ (List.mem_cons_of_mem _ (List.mem_cons_self ..))) _) (inT_use hSF.2.1 (ocX4_249 _ (List.mem_cons_of_mem _ (List.mem_cons_of_mem _ (List.mem_cons_self ..)))) _) ?_ ?_ ?_ ?_ hdec ?_
      · show 1 ≤ d + 8
        omega
      · show _ + 13 ≤ 64 * d + 128
        rw [catS_sum]
        omega
      · show 0 + n ≤ b
        omega
      · show 0 + 6 * n ≤ 6 * b
        omega
      · exact hk hl H locs ls hH hL)
  rw [lg_entry_eq]
  exact hW (by unfold padL; rw [List.length_append, List.length_replicate]; omega) s.heap [] _ ⟨hP, wl_DA _ hD, va_S.rf⟩ (LR.entry E As hlen)
