/-! methods with handlers -/
def ctN (k : Nat) : String := if k = 13 then xIA else if k = 15 then xIO else if k = 17 then xIS else if k = 19 then xUO else xNS
def hok (q : Nat × Nat × Nat × Nat) (pc : Nat) (X : String) : Bool := decide (q.1 ≤ pc) && decide (pc < q.2.1) && decide (ctN q.2.2.2 = X)
def hdF (hh : Hh) (pc : Nat) (X : String) : Option Nat := (hh.find? (fun q => hok q pc X)).map (fun q => q.2.2.1)
def hhOK (own : String) (q : Nat × Nat × Nat × Nat) : Bool := decide (q.2.2.2 ≠ 0) && inB (.classLink own q.2.2.2 (ctN q.2.2.2)) && inB (.castable (ctN q.2.2.2) (ctN q.2.2.2)) && decide (ctN q.2.2.2 ∈ excL)
theorem nc_all : ∀ a ∈ excL, ∀ b ∈ excL, b ≠ a → (a, b) ∈ ncL := by decide
section
variable {p : Program} {l : Launch} {e : Env} {s : State} {m : MethodId} {args : Array Value} {below : List Frame} {meth : Method} {c : Code} {E : En} {d b : Nat} {po : Option AV → Wd → Prop} {nL : Nat} {o : OT} {hh : Hh}
theorem XK.ofH (hown : s.vm.findClass o.1 = some m.cls) (hSF : SF E s s.heap.size s.heap) (htab : c.exceptionTable.toList = tableOf hh) (hhh : hh.all (hhOK o.1) = true) : XK p l e (rmo d b) s m args below meth c (mQ below E po noX args s b) nL 0 0 E (hdF hh) b noX := by
  intro pc X u n H1 locs1 L ls rest ce q9 hn hl hL hH hce hcv hcl hxo
  unfold hdF at hxo
  cases hf : hh.find? (fun q => hok q pc X) with
  | none =>
    rw [hf] at hxo
    exact hxo.elim
  | some q =>
    rw [hf] at hxo
    have hxo : ∀ q1 : Nat, Wx p l e (rmo d b) s m args below meth c (mQ below E po noX args s b) nL 0 0 E q.2.2.1 L [vO q1] u n := hxo
    obtain ⟨hq, pre, suf, hsp, hpre⟩ := List.find?_eq_some_iff_append.mp hf
    have hqm : q ∈ hh := by rw [hsp]; exact List.mem_append_right _ List.mem_cons_self
    have h1 := List.all_eq_true.mp hhh q hqm
    unfold hhOK at h1
    simp only [Bool.and_eq_true, decide_eq_true_eq] at h1
    obtain ⟨⟨⟨a1, a2⟩, a3⟩, a4⟩ := h1
    unfold hok at hq
    simp only [Bool.and_eq_true, decide_eq_true_eq] at hq
    obtain ⟨⟨b1, b2⟩, b3⟩ := hq
    subst b3
    refine vx_catch (own := o.1) (name := ctN q.2.2.2) hown (tableOf pre) ⟨q.1, q.2.1, q.2.2.1, q.2.2.2⟩ (tableOf suf) (by rw [htab, hsp]; simp [tableOf]) (fun z hz => ?_) ?_ a1 (inT_use hSF.2.1 (inB_T a2) args) (inT_use hSF.2.1 (inB_T a3) args) hce hcv hcl (hxo q9 hl H1 locs1 ls hH hL)
    · obtain ⟨y, hy, rfl⟩ := List.mem_map.mp hz
      have h2 := hpre y hy
      have hym : y ∈ hh := by rw [hsp]; exact List.mem_append_left _ hy
      have h3 := List.all_eq_true.mp hhh y hym
      unfold hhOK at h3
      simp only [Bool.and_eq_true, decide_eq_true_eq] at h3
      obtain ⟨⟨⟨c1, c2⟩, c3⟩, c4⟩ := h3
      by_cases hcov : y.1 ≤ pc ∧ pc < y.2.1
      · refine Or.inr ⟨c1, ctN y.2.2.2, inT_use hSF.2.1 (inB_T c2) args, hSF.2.2.1.2 (ctN q.2.2.2, ctN y.2.2.2) (nc_all _ a4 _ c4 (fun e => ?_))⟩
        unfold hok at h2
        rw [decide_eq_true hcov.1, decide_eq_true hcov.2, decide_eq_true e] at h2
        cases h2
      · refine Or.inl ?_
        simp only [covers, Bool.and_eq_false_iff, decide_eq_false_iff_not]
        omega
    · simp only [covers, Bool.and_eq_true, decide_eq_true_eq]
      exact ⟨b1, b2⟩
end
theorem Ctr.ofH {l : Launch} {E : En} {gk : Nat → Bool} {o : OT} {d b : Nat} {mi : MI} {pg : List (Nat × Instr × Nat)} {As : List AV} {w : Wd} {po : Option AV → Wd → Prop}
    (hE : EK E gk) (ho : otOK o) (hpg : pg.all (pgOK mi.2.1) = true) (hy : plainName mi.1.cls = true) (hcls : mi.1.cls = o.1) (hne : mi.2.2.2.2.2.2 ≠ []) (hhh : mi.2.2.2.2.2.2.all (hhOK o.1) = true) (hlen : (enL As).length ≤ mi.2.2.1)
    (h : ∀ V, Clo l E none gk o [] (hdF mi.2.2.2.2.2.2) d b mi.2.2.2.1 po noX pg V → V 0 (padL mi.2.2.1 (enL As)) [] w 0) : Ctr l E d b mi As w po noX := by
  intro sz
  have hw : wsOf mi = [.codeWith mi.1 mi.2.1 mi.2.2.1 mi.2.2.2.1 mi.2.2.2.2.2.2] := by
    unfold wsOf
    cases hq : mi.2.2.2.2.2.2 with
    | nil => exact (hne hq).elim
    | cons q r => rfl
  refine vx_ofWH (cc := mi.2.1) (maxL := mi.2.2.1) (ret := mi.2.2.2.1) hy hw ?_
  intro p e s m args below meth c s₁ B hml hv
  have htab := vx_table (x := mi.1) B (atoms_spec (ws := wsOf mi) B.pre _ (by rw [hw]; exact List.mem_cons_self))
  obtain ⟨rfl, rfl, hP, hD, hSF⟩ := hv
  have hown : s.vm.findClass o.1 = some m.cls := by rw [← hcls]; exact findClass_of_methodNamed B.named
  have hlocks := B.notSynchronized
  have F : MF p (rmo d b) s m c mi.2.2.1 0 0 E mi.2.1 gk o d b := ⟨B.exec, B.bytes, hml, hown, hSF, hE.1, hE.2, ho, Nat.le_refl _, Nat.le_refl _, by show 0 + b ≤ b; omega, by show 0 + 6 * b ≤ 6 * b; omega⟩
  have hW := h (Wx p l e (rmo d b) s m (As.map (cv E)).toArray below meth c (mQ below E po noX (As.map (cv E)).toArray s b) mi.2.2.1 0 0 E) (fun pc x hlk L S w c hst => by
    obtain ⟨ins, tg⟩ := x
    exact stp_sound (sc := none) F (XK.ofH hown hSF htab hhh) (RET.of B.exec B.bytes B.returns hlocks) (fun pc t w n H locs ls hlk => by cases hlk) trivial (List.all_eq_true.mp hpg _ (lk_mem hlk)) hst)
  rw [lg_entry_eq]
  exact hW (by unfold padL; rw [List.length_append, List.length_replicate]; omega) s.heap [] _ ⟨hP, wl_DA _ hD, va_S.rf⟩ (LR.entry E As hlen)
