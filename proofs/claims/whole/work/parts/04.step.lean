/-! the abstract machine's step, backwards: what must hold ahead of an instruction so that V holds there -/
abbrev Hh : Type := List (Nat × Nat × Nat × Nat)
/-- a method: name, code, locals, answer's type, arguments (without the object), the object's class, handlers -/
abbrev MI : Type := MethodName × ByteArray × Nat × Option FieldType × Nat × Nat × Hh
/-- a class's own tables: name, fields, long constants, int constants, calls -/
abbrev OT : Type := String × List (Nat × Nat × Nat) × List (Nat × Int64) × List (Nat × Int32) × List (Nat × MI)
/-- a throw: class, its entry, the text's entry, the constructor's entry, the text, by a wide index -/
abbrev TW : Type := String × Nat × Nat × Nat × String × Bool
def lk {α : Type} : List (Nat × α) → Nat → Option α
  | [], _ => none
  | q :: r, k => match Nat.beq q.1 k with
    | true => some q.2
    | false => lk r k
theorem lk_mem {α : Type} : ∀ {t : List (Nat × α)} {k : Nat} {x : α}, lk t k = some x → (k, x) ∈ t
  | [], k, x, h => by cases h
  | q :: r, k, x, h => by
    unfold lk at h
    split at h
    · rename_i hq
      have e : q.1 = k := Nat.eq_of_beq_eq_true hq
      obtain ⟨a, b⟩ := q
      cases h
      cases e
      exact List.mem_cons_self
    · exact List.mem_cons_of_mem _ (lk_mem h)
def AE (E : En) (sz : Nat) : Nat → Prop := fun a => (∃ q ∈ eI E, eA E q.1 q.2 = a) ∨ sz ≤ a
def okW (w : Cond) : Bool := (w.onTables && w.keepsFace) || goodWord w
def TBL (U : State) : Prop := ∀ w ∈ lw_tbl, okW w = true → w.before #[] U = true
theorem okW_move {A A' : Array Value} {s U : State} {w : Cond} (hW : s.WarmedH U.vm) (ho : okW w = true) (h : w.before A s = true) : w.before A' U = true := by
  unfold okW at ho
  rw [Bool.or_eq_true] at ho
  rcases ho with ho | ho
  · rw [Bool.and_eq_true] at ho
    exact va_tabs (u := s.setVm U.vm) ho.1 rfl (Cond.before_shiftedFace (State.Shifted.of_warmed hW) w ho.2 h)
  · exact word_at hW (good_of_word ho) h
theorem TBL.moved {s U : State} (hW : s.WarmedH U.vm) (h : TBL s) : TBL U := fun w hw ho => okW_move hW ho (h w hw ho)
theorem TBL.use {U : State} (h : TBL U) {w : Cond} (hw : w ∈ lw_tbl) (ho : okW w = true) (A : Array Value) : w.before A U = true := okW_move (State.WarmedH.refl U) ho (h w hw ho)
/-- no one of the five exceptions is of another's class -/
def excL : List String := ["java/lang/IllegalArgumentException", "java/lang/IndexOutOfBoundsException", "java/lang/IllegalStateException", "java/lang/UnsupportedOperationException", "java/util/NoSuchElementException"]
def ncL : List (String × String) := excL.flatMap (fun a => (excL.filter (fun b => decide (b ≠ a))).map (fun b => (a, b)))
def STR (U : State) : Prop := (∀ q ∈ strsL, ∃ sa : Nat, vk_R RX4 q.1 q.2 sa U) ∧ ∀ q ∈ ncL, va_Nc q.1 q.2 U
theorem STR.moved {s U : State} (hW : s.WarmedH U.vm) (h : STR s) : STR U := ⟨fun q hq => by
  obtain ⟨sa, h1⟩ := h.1 q hq
  exact ⟨sa, vk_R.warm hW h1⟩, fun q hq => (h.2 q hq).moved hW.alike⟩
/-- what stays: the tables, the texts, the two statics of Throwable -/
def SF (E : En) (U : State) (sz : Nat) (H : Heap) : Prop := va_K (eD E) vwCl (tysE E) U ∧ TBL U ∧ STR U ∧ vx_Zq Bundle.tN "UNASSIGNED_STACK" Bundle.steD (AE E sz) U H ∧ vx_Zq Bundle.tN "SUPPRESSED_SENTINEL" Bundle.listD (AE E sz) U H
theorem AE.mono {E : En} {a b q : Nat} (h : a ≤ b) (hq : AE E b q) : AE E a q := hq.elim Or.inl (fun z => Or.inr (Nat.le_trans h z))
theorem SF.moved {E : En} {s U : State} {a b : Nat} {H H1 : Heap} (hW : s.WarmedH U.vm) (hab : a ≤ b) (hk : ∀ q : Nat, q < H.size → ¬ AE E a q → H1[q]? = H[q]?) (h : SF E s a H) : SF E U b H1 := by
  obtain ⟨h1, h2, h3, h4, h5⟩ := h
  exact ⟨va_K.moved hW.alike h1, h2.moved hW, h3.moved hW, ((h4.kept hk).moved hW.alike).narrow (fun q hq => AE.mono hab hq), ((h5.kept hk).moved hW.alike).narrow (fun q hq => AE.mono hab hq)⟩
def HW (E : En) (w : Wd) (U : State) : Prop := va_P (eD E) vwCl (wl E w) U.heap ∧ va_D (fun _ => True) (wl E w) ∧ SF E U U.heap.size U.heap
def rmo (d b : Nat) : Room := { frames := d + 8, cells := b, slots := 6 * b, locals := 64 * d + 128 }
def wsOf (mi : MI) : List Cond := match mi.2.2.2.2.2.2 with
  | [] => [.code mi.1 mi.2.1 mi.2.2.1 mi.2.2.2.1]
  | q :: r => [.codeWith mi.1 mi.2.1 mi.2.2.1 mi.2.2.2.1 (q :: r)]
def Qx (E : En) (po : Option AV → Wd → Prop) (sz : Nat) : Array Value → State → Outcome → State → Prop := fun _ st oc t =>
  (∃ (r : Option AV) (u : Wd), oc = .returned (r.map (cv E)) ∧ po r u ∧ va_P (eD E) vwCl (wl E u) t.heap) ∧ va_F (AE E sz) st t
def Xx (E : En) (xo : String → Wd → Prop) (sz : Nat) : String → State → State → Prop := fun X st t => ∃ u : Wd, xo X u ∧ va_P (eD E) vwCl (wl E u) t.heap ∧ va_F (AE E sz) st t
/-- a method's contract at depth d, with at most b exceptions made -/
def Ctr (l : Launch) (E : En) (d b : Nat) (mi : MI) (As : List AV) (w : Wd) (po : Option AV → Wd → Prop) (xo : String → Wd → Prop) : Prop :=
  ∀ sz : Nat, vx_Met l mi.1 (wsOf mi) (rmo d b) (va_Pc (As.map (cv E)) (fun U => U.heap.size = sz ∧ HW E w U)) (Qx E po sz) (Xx E xo sz) b (6 * b) (AE E sz)
theorem wl_D {E : En} {w u : Wd} {A : Nat → Prop} (h : va_D A (wl E w)) : va_D A (wl E u) := by
  have key : ∀ (v v' : Wd) (k : Nat) (q : Nat × va_E), (wl E v)[k]? = some q → ∃ q', (wl E v')[k]? = some q' ∧ q'.1 = q.1 := by
    intro v v' k q hq
    simp only [wl, List.getElem?_map, Option.map_eq_some_iff] at hq ⊢
    obtain ⟨a, ha, rfl⟩ := hq
    exact ⟨_, ⟨a, ha, rfl⟩, rfl⟩
  refine ⟨fun i j p q hp hq e => ?_, fun k q hq => ?_⟩
  · obtain ⟨p', hp', e1⟩ := key u w i p hp
    obtain ⟨q', hq', e2⟩ := key u w j q hq
    exact h.1 i j p' q' hp' hq' (by rw [e1, e2, e])
  · obtain ⟨q', hq', e2⟩ := key u w k q hq
    rw [← e2]
    exact h.2 k q' hq'
theorem wl_in {E : En} {w : Wd} {sz k : Nat} {q : Nat × va_E} (h : (wl E w)[k]? = some q) : AE E sz q.1 := by
  simp only [wl, List.getElem?_map, Option.map_eq_some_iff] at h
  obtain ⟨a, ha, rfl⟩ := h
  exact Or.inl ⟨a, List.mem_of_getElem? ha, rfl⟩
theorem wl_DA {E : En} {w u : Wd} {A : Nat → Prop} (sz : Nat) (h : va_D A (wl E w)) : va_D (AE E sz) (wl E u) := ⟨(wl_D h).1, fun _ _ hq => wl_in hq⟩
def opI (S : List AV) (f : Int32 → Int32 → List AV → Prop) : Prop := match S with
  | .inl y :: .inl x :: r => f x y r
  | _ => False
def opJ (S : List AV) (f : Int64 → Int64 → List AV → Prop) : Prop := match S with
  | .inr (.inl y) :: .inr (.inl x) :: r => f x y r
  | _ => False
def opH (S : List AV) (f : Int64 → Int32 → List AV → Prop) : Prop := match S with
  | .inl y :: .inr (.inl x) :: r => f x y r
  | _ => False
def op1 (S : List AV) (f : Int32 → List AV → Prop) : Prop := match S with
  | .inl x :: r => f x r
  | _ => False
def op1J (S : List AV) (f : Int64 → List AV → Prop) : Prop := match S with
  | .inr (.inl x) :: r => f x r
  | _ => False
def rf (gk : Nat → Bool) (a : AV) (f : Nat → Nat → Prop) : Prop := match a with
  | .inr (.inr (.inl k)) => (match gk k with
    | true => f k 0
    | false => False)
  | .inr (.inr (.inr (.inl q))) => (match gk q.1 && Nat.beq (cnt q.1) 12 with
    | true => q.2 < 12 ∧ f q.1 q.2
    | false => False)
  | _ => False
def ofT (tag : Nat) (k : Nat) (f : Nat → Prop) : Prop := match shp k with
  | (t, n, _) => match Nat.beq t tag with
    | true => f n
    | false => False
def ldA (gk : Nat → Bool) (tag : Nat) (S : List AV) (f : Nat → Nat → Nat → List AV → Prop) : Prop := match S with
  | .inl i :: a :: r => rf gk a (fun k q => ofT tag k (fun len => ∃ n : Nat, i = nI n ∧ n < len ∧ f k q n r))
  | _ => False
def stA (gk : Nat → Bool) (tag : Nat) (S : List AV) (f : Nat → Nat → Nat → Int32 → List AV → Prop) : Prop := match S with
  | .inl x :: .inl i :: a :: r => rf gk a (fun k q => ofT tag k (fun len => ∃ n : Nat, i = nI n ∧ n < len ∧ f k q n x r))
  | _ => False
def stAJ (gk : Nat → Bool) (S : List AV) (f : Nat → Nat → Nat → Int64 → List AV → Prop) : Prop := match S with
  | .inr (.inl x) :: .inl i :: a :: r => rf gk a (fun k q => ofT 2 k (fun len => ∃ n : Nat, i = nI n ∧ n < len ∧ f k q n x r))
  | _ => False
/-- the field of an entry, at an object -/
def fdA (gk : Nat → Bool) (fl : List (Nat × Nat × Nat)) (idx : Nat) (a : AV) (f : Nat → Nat → Nat → Nat → Prop) : Prop := match lk fl idx with
  | some (cl, j) => rf gk a (fun k q => ofT 0 k (fun c => match Nat.beq c cl && Nat.blt j (nfl cl) with
    | true => f k q j (ftc cl j)
    | false => False))
  | none => False
def popA : Nat → List AV → List AV → Option (List AV × List AV)
  | 0, acc, S => some (acc, S)
  | n + 1, acc, v :: S => popA n (v :: acc) S
  | _ + 1, _, [] => none
def catS : List AV → Nat
  | [] => 0
  | v :: S => (match isJ v with
    | true => 2
    | false => 1) + catS S
def callP (l : Launch) (E : En) (D B : Nat) (mi : MI) (As : List AV) (w : Wd) (c : Nat) (k : Option AV → Wd → Nat → Prop) (x : String → Wd → Nat → Prop) : Prop :=
  ∃ (d b : Nat) (po : Option AV → Wd → Prop) (xo : String → Wd → Prop), d < D ∧ c + b ≤ B ∧ Ctr l E d b mi As w po xo ∧ (∀ (r : Option AV) (u : Wd), po r u → k r u (c + b)) ∧ ∀ (X : String) (u : Wd), xo X u → x X u (c + b)
def ilen : Instr → Nat
  | .aload _ => 2 | .iload _ => 2 | .lload _ => 2 | .istore _ => 2 | .lstore _ => 2 | .astore _ => 2 | .bipush _ => 2 | .ldc _ => 2
  | .sipush _ => 3 | .ldc_w _ => 3 | .ldc2_w _ => 3 | .getfield _ => 3 | .putfield _ => 3 | .goto _ => 3 | .if_icmp _ _ => 3 | .ifCond _ _ => 3 | .iinc _ _ => 3
  | .invokevirtual _ => 3 | .invokestatic _ => 3 | .invokespecial _ => 3 | .new _ => 3
  | _ => 1
/-- does the comparison hold -/
def cmpI : ClassFile.Cond → Int32 → Int32 → Prop
  | .eq, x, y => x = y
  | .ne, x, y => ¬ x = y
  | .lt, x, y => x < y
  | .ge, x, y => y ≤ x
  | .gt, x, y => y < x
  | .le, x, y => x ≤ y
section
variable (l : Launch) (E : En) (sc : Option (Nat × Nat × (Nat → Int32))) (gk : Nat → Bool) (o : OT) (tw : List (Nat × TW)) (hd : Nat → String → Option Nat) (D B : Nat) (ret : Option FieldType) (po : Option AV → Wd → Prop) (xp : String → Wd → Prop)
variable (V : Nat → List (Option AV) → List AV → Wd → Nat → Prop)
def stp (ins : Instr) (tg pc : Nat) (L : List (Option AV)) (S : List AV) (w : Wd) (c : Nat) : Prop := match ins with
  | .iconst n => V (pc + 1) L (vI (Int32.ofInt n) :: S) w c
  | .bipush n => V (pc + 2) L (vI (Int8.ofInt n).toInt32 :: S) w c
  | .sipush n => V (pc + 3) L (vI (Int16.ofInt n).toInt32 :: S) w c
  | .lconst n => V (pc + 1) L (vJ (Int64.ofNat n.val) :: S) w c
  | .ldc_w i => (match lk o.2.2.2.1 i with
    | some x => V (pc + 3) L (vI x :: S) w c
    | none => False)
  | .ldc2_w i => (match lk o.2.2.1 i with
    | some x => V (pc + 3) L (vJ x :: S) w c
    | none => False)
  | .iload_n n => (match L[n.val]? with
    | some (some (.inl x)) => V (pc + 1) L (vI x :: S) w c
    | _ => False)
  | .iload n => (match L[n]? with
    | some (some (.inl x)) => V (pc + 2) L (vI x :: S) w c
    | _ => False)
  | .lload_n n => (match L[n.val]? with
    | some (some (.inr (.inl x))) => V (pc + 1) L (vJ x :: S) w c
    | _ => False)
  | .lload n => (match L[n]? with
    | some (some (.inr (.inl x))) => V (pc + 2) L (vJ x :: S) w c
    | _ => False)
  | .aload_n n => (match L[n.val]? with
    | some (some (.inr (.inr x))) => V (pc + 1) L (.inr (.inr x) :: S) w c
    | _ => False)
  | .aload n => (match L[n]? with
    | some (some (.inr (.inr x))) => V (pc + 2) L (.inr (.inr x) :: S) w c
    | _ => False)
  | .istore_n n => (match Nat.blt n.val L.length with
    | true => op1 S (fun x r => V (pc + 1) (stL L n.val (vI x)) r w c)
    | false => False)
  | .istore n => (match Nat.blt n L.length with
    | true => op1 S (fun x r => V (pc + 2) (stL L n (vI x)) r w c)
    | false => False)
  | .lstore_n n => (match Nat.blt (n.val + 1) L.length with
    | true => op1J S (fun x r => V (pc + 1) (stL L n.val (vJ x)) r w c)
    | false => False)
  | .lstore n => (match Nat.blt (n + 1) L.length with
    | true => op1J S (fun x r => V (pc + 2) (stL L n (vJ x)) r w c)
    | false => False)
  | .astore_n n => (match Nat.blt n.val L.length, S with
    | true, .inr (.inr x) :: r => V (pc + 1) (stL L n.val (.inr (.inr x))) r w c
    | _, _ => False)
  | .astore n => (match Nat.blt n L.length, S with
    | true, .inr (.inr x) :: r => V (pc + 2) (stL L n (.inr (.inr x))) r w c
    | _, _ => False)
  | .iinc n k => (match L[n]? with
    | some (some (.inl x)) => V (pc + 3) (stL L n (vI (x + Int32.ofInt k))) S w c
    | _ => False)
  | .iadd => opI S (fun x y r => V (pc + 1) L (vI (x + y) :: r) w c)
  | .isub => opI S (fun x y r => V (pc + 1) L (vI (x - y) :: r) w c)
  | .imul => opI S (fun x y r => V (pc + 1) L (vI (x * y) :: r) w c)
  | .idiv => opI S (fun x y r => ¬ y = 0 ∧ V (pc + 1) L (vI (x / y) :: r) w c)
  | .irem => opI S (fun x y r => ¬ y = 0 ∧ V (pc + 1) L (vI (x - x / y * y) :: r) w c)
  | .iand => opI S (fun x y r => V (pc + 1) L (vI (x &&& y) :: r) w c)
  | .ior => opI S (fun x y r => V (pc + 1) L (vI (x ||| y) :: r) w c)
  | .ixor => opI S (fun x y r => V (pc + 1) L (vI (x ^^^ y) :: r) w c)
  | .ishl => opI S (fun x y r => V (pc + 1) L (vI (x <<< (y &&& 31)) :: r) w c)
  | .ishr => opI S (fun x y r => V (pc + 1) L (vI (x >>> (y &&& 31)) :: r) w c)
  | .iushr => opI S (fun x y r => V (pc + 1) L (vI (x.toUInt32 >>> (y.toUInt32 &&& Int32.toUInt32 31)).toInt32 :: r) w c)
  | .ladd => opJ S (fun x y r => V (pc + 1) L (vJ (x + y) :: r) w c)
  | .lsub => opJ S (fun x y r => V (pc + 1) L (vJ (x - y) :: r) w c)
  | .lmul => opJ S (fun x y r => V (pc + 1) L (vJ (x * y) :: r) w c)
  | .ldiv => opJ S (fun x y r => ¬ y = 0 ∧ V (pc + 1) L (vJ (x / y) :: r) w c)
  | .lrem => opJ S (fun x y r => ¬ y = 0 ∧ V (pc + 1) L (vJ (x - x / y * y) :: r) w c)
  | .land => opJ S (fun x y r => V (pc + 1) L (vJ (x &&& y) :: r) w c)
  | .lor => opJ S (fun x y r => V (pc + 1) L (vJ (x ||| y) :: r) w c)
  | .lxor => opJ S (fun x y r => V (pc + 1) L (vJ (x ^^^ y) :: r) w c)
  | .lcmp => opJ S (fun x y r => V (pc + 1) L (vI (lg_cmp x y) :: r) w c)
  | .lshl => opH S (fun x y r => V (pc + 1) L (vJ (x <<< (y.toInt64 &&& 63)) :: r) w c)
  | .lshr => opH S (fun x y r => V (pc + 1) L (vJ (x >>> (y.toInt64 &&& 63)) :: r) w c)
  | .lushr => opH S (fun x y r => V (pc + 1) L (vJ (x.toUInt64 >>> (y.toInt64.toUInt64 &&& Int64.toUInt64 63)).toInt64 :: r) w c)
  | .i2l => op1 S (fun x r => V (pc + 1) L (vJ x.toInt64 :: r) w c)
  | .i2c => op1 S (fun x r => V (pc + 1) L (vI (x.toUInt32 % 65536).toInt32 :: r) w c)
  | .l2i => op1J S (fun x r => V (pc + 1) L (vI x.toInt32 :: r) w c)
  | .dup => (match S with
    | v :: r => (match isJ v with
      | true => False
      | false => V (pc + 1) L (v :: v :: r) w c)
    | _ => False)
  | .pop => (match S with
    | v :: r => (match isJ v with
      | true => False
      | false => V (pc + 1) L r w c)
    | _ => False)
  | .dup2 => (match S with
    | v :: u :: r => (match isJ v || isJ u with
      | true => False
      | false => V (pc + 1) L (v :: u :: v :: u :: r) w c)
    | _ => False)
  | .ifCond q _ => op1 S (fun x r => (cmpI q x 0 → V tg L r w c) ∧ (¬ cmpI q x 0 → V (pc + 3) L r w c))
  | .if_icmp q _ => opI S (fun x y r => (cmpI q x y → V tg L r w c) ∧ (¬ cmpI q x y → V (pc + 3) L r w c))
  | .goto _ => V tg L S w c
  | .tableswitch df lo hi offs => op1 S (fun x r => ∃ t : Nat, (((x.toInt < lo ∨ hi < x.toInt) ∧ (pc : Int) + df = (t : Int)) ∨ (¬ x.toInt < lo ∧ ¬ hi < x.toInt ∧ ∃ off : Int, offs[(x.toInt - lo).toNat]? = some off ∧ (pc : Int) + off = (t : Int))) ∧ V t L r w c)
  | .getfield i => (match S with
    | a :: r => fdA gk o.2.1 i a (fun k q j t => match t with
      | 0 => V (pc + 3) L (vI (w.1 k q j) :: r) w c
      | 1 => V (pc + 3) L (vI (w.1 k q j) :: r) w c
      | 2 => V (pc + 3) L (vJ (w.2 k q j) :: r) w c
      | t + 3 => V (pc + 3) L (vR t :: r) w c)
    | _ => False)
  | .putfield i => (match S with
    | v :: a :: r => fdA gk o.2.1 i a (fun k q j t => match t, v with
      | 0, .inl x => V (pc + 3) L r (wI w k q j x) c
      | 1, .inl x => (x = 0 ∨ x = 1) ∧ V (pc + 3) L r (wI w k q j x) c
      | 2, .inr (.inl x) => V (pc + 3) L r (wJ w k q j x) c
      | _, _ => False)
    | _ => False)
  | .iaload => (match S with
    | .inl i :: .inr (.inr (.inr (.inr a))) :: r => (match sc with
      | some (b, n, xs) => a = b ∧ ∃ j : Nat, i = nI j ∧ j < n ∧ V (pc + 1) L (vI (xs j) :: r) w c
      | none => False)
    | _ => ldA gk 1 S (fun k q n r => V (pc + 1) L (vI (w.1 k q n) :: r) w c))
  | .laload => ldA gk 2 S (fun k q n r => V (pc + 1) L (vJ (w.2 k q n) :: r) w c)
  | .caload => ldA gk 3 S (fun k q n r => V (pc + 1) L (vI (w.1 k q n) :: r) w c)
  | .baload => ldA gk 4 S (fun k q n r => V (pc + 1) L (vI (w.1 k q n) :: r) w c)
  | .aaload => (match S with
    | .inl i :: .inr (.inr (.inl k)) :: r => (match gk k, shp k with
      | true, (5, m, b) => ∃ n : Nat, i = nI n ∧ n < m ∧ V (pc + 1) L (vQ b n :: r) w c
      | true, (6, m, b) => ∃ n : Nat, i = nI n ∧ n < m ∧ V (pc + 1) L (vQ b n :: r) w c
      | _, _ => False)
    | _ => False)
  | .iastore => stA gk 1 S (fun k q n x r => V (pc + 1) L r (wI w k q n x) c)
  | .castore => stA gk 3 S (fun k q n x r => V (pc + 1) L r (wI w k q n (vp_nar .char x)) c)
  | .bastore => stA gk 4 S (fun k q n x r => V (pc + 1) L r (wI w k q n (vp_nar .boolean x)) c)
  | .lastore => stAJ gk S (fun k q n x r => V (pc + 1) L r (wJ w k q n x) c)
  | .arraylength => (match S with
    | .inr (.inr (.inr (.inr a))) :: r => (match sc with
      | some (b, n, _) => a = b ∧ V (pc + 1) L (vI (nI n) :: r) w c
      | none => False)
    | a :: r => rf gk a (fun k _ => match shp k with
      | (1, n, _) => V (pc + 1) L (vI (nI n) :: r) w c
      | (2, n, _) => V (pc + 1) L (vI (nI n) :: r) w c
      | _ => False)
    | _ => False)
  | .invokestatic i => (match lk o.2.2.2.2 i with
    | some mi => (match Nat.beq mi.2.2.2.2.2.1 99, popA mi.2.2.2.2.1 [] S with
      | true, some (As, r) => (match Nat.ble (catS r) 8 with
        | true => callP l E D B mi As w c (fun v u k => V (pc + 3) L (v.toList ++ r) u k) (fun X u k => match hd pc X with
          | some h => ∀ q : Nat, V h L [vO q] u k
          | none => xp X u) ∧ True
        | false => False)
      | _, _ => False)
    | none => False)
  | .invokevirtual i => (match lk o.2.2.2.2 i with
    | some mi => (match popA (mi.2.2.2.2.1 + 1) [] S with
      | some (.inr (.inr (.inl k)) :: As, r) => (match Nat.ble (catS r) 8 && gk k, shp k with
        | true, (0, cl, _) => (match Nat.beq mi.2.2.2.2.2.1 cl with
          | true => callP l E D B mi (vR k :: As) w c (fun v u k => V (pc + 3) L (v.toList ++ r) u k) (fun X u k => match hd pc X with
            | some h => ∀ q : Nat, V h L [vO q] u k
            | none => xp X u) ∧ True
          | false => False)
        | _, _ => False)
      | _ => False)
    | none => False)
  | .ireturn => (match S with
    | [.inl x] => (match ret with
      | some .int => po (some (vI x)) w ∧ c ≤ B
      | some .boolean => (x = 0 ∨ x = 1) ∧ po (some (vI x)) w ∧ c ≤ B
      | _ => False)
    | _ => False)
  | .lreturn => (match S with
    | [.inr (.inl x)] => (match ret with
      | some .long => po (some (vJ x)) w ∧ c ≤ B
      | _ => False)
    | _ => False)
  | .return_ => (match S, ret with
    | [], none => po none w ∧ c ≤ B
    | _, _ => False)
  | .new _ => (match S, lk tw pc with
    | [], some t => xp t.1 w ∧ c + 1 ≤ B
    | _, _ => False)
  | _ => False
end
/-- V is closed: it holds wherever a step says that it must -/
def Clo (l : Launch) (E : En) (sc : Option (Nat × Nat × (Nat → Int32))) (gk : Nat → Bool) (o : OT) (tw : List (Nat × TW)) (hd : Nat → String → Option Nat) (D B : Nat) (ret : Option FieldType) (po : Option AV → Wd → Prop) (xp : String → Wd → Prop) (pg : List (Nat × Instr × Nat)) (V : Nat → List (Option AV) → List AV → Wd → Nat → Prop) : Prop :=
  ∀ (pc : Nat) (x : Instr × Nat), lk pg pc = some x → ∀ (L : List (Option AV)) (S : List AV) (w : Wd) (c : Nat), stp l E sc gk o tw hd D B ret po xp V x.1 x.2 pc L S w c → V pc L S w c
