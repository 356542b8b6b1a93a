/-! the constructors: rows for arrays whose classes are known, and the form of their contracts -/
abbrev Ea (a : Nat) (D : va_G) (C : Nat → ClassId) : En := (fun _ _ => a, D, C, [(0, 0)])
/-- the classes of arrays of arrays -/
def AOs (U : State) : Prop := va_AOA .long U ∧ va_AOA .int U
theorem AOs.moved {u U : State} (hvm : u.vm.Alike U.vm) (h : AOs u) : AOs U := ⟨arrayOver_alikeB hvm h.1, arrayOver_alikeB hvm h.2⟩
def CPre (D : va_G) (C : Nat → ClassId) (a sz : Nat) (e0 : va_E) : State → Prop := fun U => U.heap.size = sz ∧ va_P D vwCl [(a, e0)] U.heap ∧ SF (Ea a D C) U U.heap.size U.heap ∧ va_D (fun _ => True) [(a, e0)] ∧ AOs U
abbrev CPost (D : va_G) (C : Nat → ClassId) (a sz : Nat) (e0 : va_E) (k0 : Nat) (kl : List (Nat × Nat)) (w : Wd) : Array Value → State → Outcome → State → Prop := va_Qv (S := Nat → Nat → Nat) (fun u => u k0 0 = a) (fun u t => va_P D vwCl (wl (u, D, C, kl) w) t.heap ∧ va_D (va_A [(a, e0)] sz) (wl (u, D, C, kl) w)) (va_A [(a, e0)] sz)
abbrev w00 : Wd := (fun _ _ _ => 0, fun _ _ _ => 0)
theorem CPre.blind {D : va_G} {C : Nat → ClassId} {a sz : Nat} {e0 : va_E} {As : List Value} : FrameBlind (va_Pc As (CPre D C a sz e0)) := by
  intro b U g mk ⟨h1, h2, h3, h4, h5, h6⟩
  exact ⟨h1, h2, h3, h4.moved (U := U.calling g mk b) (State.WarmedH.refl U) (Nat.le_refl _) (fun _ _ _ => rfl), h5, h6.moved (U := U.calling g mk b) (Vm.Alike.refl U.vm)⟩
theorem tk0 {U : State} (hT : TBL U) {w : Cond} (h : inB w = true) (A : Array Value) : w.before A U = true := inT_use hT (inB_T h) A
section
variable {p : Program} {l : Launch} {e : Env} {R : Room} {s : State} {m : MethodId} {args : Array Value} {below : List Frame} {meth : Method} {c : Code} {H : Heap} {locs : List Loc} {cells slots : Nat} {Q : State → Prop}
variable {cc : ByteArray} {pc : Nat} {ls : Array Slot} {rest : List Value} {D : va_G} {cl : List vw_C} {A : Nat → Prop} {tys : List (ClassId × FieldType)} {ws : va_W} {H0 : Heap}
theorem ra_uniq {cA cB : ClassId} {ty : FieldType} (hp : ∀ C, ty ≠ .object C) (h1 : va_RA s cA ty) (h2 : va_RA s cB ty) : cA = cB := by
  cases ty with
  | object C => exact (hp C rfl).elim
  | _ => exact Option.some.inj (h1.symm.trans h2)
theorem nw_newa (hexec : p.tables.exec = Jvm.exec) (hb : c.code = cc) {atype : ArrayType} (harr : (Cond.arrayClass (newarray.typeOf atype)).before args s = true) {ty : FieldType} (hty : newarray.typeOf atype = ty) (hp : ∀ C, ty ≠ .object C) (t0 : Nat) {cA : ClassId} (ht : tys[t0]? = some (cA, ty)) (hK : va_K D cl tys s) (hP : va_P D cl ws H) (hD : va_D A ws) (hS : va_S A H0 H locs) (hA : ∀ q, H0.size ≤ q → A q)
    {n : Int32} {N' : Nat} {a0 : vp_A} (ha : ∀ cA : ClassId, vp_cell cA a0 = arrV cA N' (fun _ => defaultValue ty)) (hn : ¬ n < 0) (hN : n.toNatClampNeg = N') (hbytes : N' * componentBytes ty ≤ 536870912) (hcells : cells + 1 ≤ R.cells) (hslots : slots + N' ≤ R.slots) (hdg : decode cc pc = .ok (.newarray atype, 2))
    (kk : ∀ (q : Nat) (H1 : Heap), va_P D cl (ws ++ [(q, .inl (cA, a0))]) H1 → va_D A (ws ++ [(q, .inl (cA, a0))]) → va_S A H0 H1 locs →
      W p l e R s m args below meth c H1 locs (cells + 1) (slots + N') Q (F0 m (pc + 2) ls (.ref q :: rest))) : W p l e R s m args below meth c H locs cells slots Q (F0 m pc ls (.int n :: rest)) := by
  refine va_newa hexec hb harr hty hK hP hD hS hA ha hn hN hbytes hcells hslots hdg (fun q cB H1 hK1 hP1 hD1 hS1 => ?_)
  have h1 := (hK1.2 tys.length (cB, ty) (by rw [List.getElem?_append_right (Nat.le_refl _), Nat.sub_self]; rfl)).2
  have h2 := (hK.2 t0 _ ht).2
  have e : cB = cA := ra_uniq hp h1 h2
  subst e
  exact kk q H1 hP1 hD1 hS1
theorem nw_mna (hexec : p.tables.exec = Jvm.exec) (hb : c.code = cc) {own : String} {index : Nat} {ty : FieldType} (hown : s.vm.findClass own = some m.cls) (hclink : (Cond.classLink own index ("[" ++ (FieldType.array ty).toString)).before args s = true) (hover : va_AOA ty s) (harr : (Cond.arrayClass ty).before args s = true)
    (t0 : Nat) {cy : ClassId} (ht : tys[t0]? = some (cy, ty)) (t1 : Nat) {cA : ClassId} (ht1 : tys[t1]? = some (cA, .array ty)) (hp : ∀ C, ty ≠ .object C) (hK : va_K D cl tys s) (hP : va_P D cl ws H) (hD : va_D A ws) (hS : va_S A H0 H locs) (hA : ∀ q, H0.size ≤ q → A q) {k : Int32} {K' : Nat} {z : vp_A} (hk : ¬ k < 0) (hM : k.toNatClampNeg = K')
    (hb1 : 12 * 4 ≤ 536870912) (hb2 : K' * componentBytes ty ≤ 536870912) (hb3 : K' ≤ 536870912) (hdf : fits ty (defaultValue ty) = true) (hdd : (defaultValue ty).isDefault = true) (hcells : cells + (1 + 12) ≤ R.cells) (hslots : slots + (12 + 12 * K') ≤ R.slots) (hz : ∀ c : ClassId, Jvm.Free.Multi.innerC c K' (defaultValue ty) = vp_cell c z) (hdg : decode cc pc = .ok (.multianewarray index 2, 4))
    (kk : ∀ (q : Nat) (r : Nat → Nat) (H1 : Heap), va_P D cl (ws ++ [(q, .inl (cA, 12, .inr (.inr (.inr (.inr (fun i => if i < 12 then some (r i) else none))))))] ++ (List.range 12).map (fun i => (r i, .inl (cy, z)))) H1 → va_D A (ws ++ [(q, .inl (cA, 12, .inr (.inr (.inr (.inr (fun i => if i < 12 then some (r i) else none))))))] ++ (List.range 12).map (fun i => (r i, .inl (cy, z)))) → va_S A H0 H1 locs →
      W p l e R s m args below meth c H1 locs (cells + 1 + 12) (slots + 12 + 12 * K') Q (F0 m (pc + 4) ls (.ref q :: rest))) : W p l e R s m args below meth c H locs cells slots Q (F0 m pc ls (.int k :: .int (Int8.ofInt 12).toInt32 :: rest)) := by
  have hcy : s.vm.findClass (FieldType.array ty).toString = some cy := by
    have h2 := (hK.2 t0 _ ht).2
    cases ty with
    | object C => exact (hp C rfl).elim
    | _ => exact h2
  have e0 : ws ++ va_pl [] (fun _ => (.inl (cy, z) : va_E)) = ws := List.append_nil ws
  refine va_mna (X := ws) (L := []) (f := fun _ => .inl (cy, z)) (N' := 12) (K' := K') (z := z) hexec hb hown hclink hover harr hcy hK (by rw [e0]; exact hP) (by rw [e0]; exact hD) hS hA (by decide) hk (by decide) hM hb1 hb2 hb3 hdf hdd hcells hslots hz hdg (fun q r cB H1 _ _ hK1 hP1 hD1 hS1 => ?_)
  have h1 := (hK1.2 tys.length (cB, .array ty) (by rw [List.getElem?_append_right (Nat.le_refl _), Nat.sub_self]; rfl)).2
  have h2 := (hK.2 t1 _ ht1).2
  have e : cB = cA := ra_uniq (ty := .array ty) (fun _ h => by cases h) h1 h2
  subst e
  have e1 : va_pl ([] ++ (List.range 12).map r) (vr_up (fun _ => (.inl (cy, z) : va_E)) ((List.range 12).map r) (.inl (cy, z))) = (List.range 12).map (fun i => (r i, .inl (cy, z))) := by
    unfold va_pl
    rw [List.nil_append, List.map_map]
    refine List.map_congr_left (fun i hi => ?_)
    show (r i, vr_up _ _ _ (r i)) = _
    unfold vr_up
    rw [if_pos (List.mem_map.mpr ⟨i, hi, rfl⟩)]
  rw [e1] at hP1 hD1
  exact kk q r H1 hP1 hD1 hS1
end
