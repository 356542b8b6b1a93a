/-! the law's wrappers: an answer goes into the one long of the out array, an exception becomes a code -/
abbrev gkL : Nat → Bool := fun k => Nat.blt k 51
theorem gkL_of {k : Nat} (h : k < 51) : gkL k = true := by
  show Nat.blt k 51 = true
  rw [Nat.blt_eq]
  exact h
def GL (l : Launch) (E : En) : Prop := l.stackTraces = false ∧ EK E gkL
theorem GL.c {l : Launch} {E : En} (G : GL l E) : GC l E := ⟨G.1, G.2.1, fun k i hk hi => G.2.2 k i (gkL_of (by
  have hk : Nat.blt k 30 = true := hk
  rw [Nat.blt_eq] at hk
  omega)) hi⟩
theorem GL.m {l : Launch} {E : En} (G : GL l E) : GM l E := ⟨G.1, G.2.1, fun k i hk hi => G.2.2 k i (gkL_of (by
  have hk : (Nat.ble 30 k && Nat.blt k 50) = true := hk
  rw [Bool.and_eq_true, Nat.blt_eq] at hk
  have := hk.2
  omega)) hi⟩
def b2j (b : Bool) : Int64 := match b with
  | true => 1
  | false => 0
section
variable {l : Launch} {E : En}
theorem w_turn {w : Wd}  {d b : Nat} {po : Option AV → Wd → Prop} (G : GL l E) (hd : d < 40) (H : Ctr l E d b mX4_turn [vR 0] w (fun v z => ∃ r : Int32, v = some (vI r) ∧ po (some (vI 0)) (wJ z 50 0 0 r.toInt64)) (fun X z => (X = xIA ∧ po (some (vI 1)) z) ∨ (X = xIO ∧ po (some (vI 2)) z) ∨ (X = xIS ∧ po (some (vI 3)) z) ∨ (X = xUO ∧ po (some (vI 4)) z))) : Ctr l E 40 b mL_turn [vR 0, vR 50] w po noX := by
  refine Ctr.ofH (d := 40) (b := b) G.2 oL_ok pgL_turn (by decide) rfl (by decide) (by decide +kernel) (Nat.le_of_ble_eq_true rfl) ?_
  intro V hV
  iterate 4 refine hV.go rfl ?_
  refine And.intro (callP_x H hd (by omega) (fun v u hp => ?_) (fun X u hp => ?_)) trivial
  · obtain ⟨r, rfl, hp⟩ := hp
    iterate 2 refine hV.go rfl ?_
    refine Exists.intro 0 (And.intro rfl (And.intro (by decide) ?_))
    iterate 3 refine hV.go rfl ?_
    exact ⟨hp, by omega⟩
  · rcases hp with ⟨rfl, hp⟩ | ⟨rfl, hp⟩ | ⟨rfl, hp⟩ | ⟨rfl, hp⟩
    · have e : hdF mL_turn.2.2.2.2.2.2 3 xIA = some 11 := by decide +kernel
      show (match hdF mL_turn.2.2.2.2.2.2 3 xIA with | some h => ∀ q : Nat, V h _ [vO q] u _ | none => noX xIA u)
      rw [e]
      intro q
      iterate 3 refine hV.go rfl ?_
      exact ⟨hp, by omega⟩
    · have e : hdF mL_turn.2.2.2.2.2.2 3 xIO = some 14 := by decide +kernel
      show (match hdF mL_turn.2.2.2.2.2.2 3 xIO with | some h => ∀ q : Nat, V h _ [vO q] u _ | none => noX xIO u)
      rw [e]
      intro q
      iterate 3 refine hV.go rfl ?_
      exact ⟨hp, by omega⟩
    · have e : hdF mL_turn.2.2.2.2.2.2 3 xIS = some 17 := by decide +kernel
      show (match hdF mL_turn.2.2.2.2.2.2 3 xIS with | some h => ∀ q : Nat, V h _ [vO q] u _ | none => noX xIS u)
      rw [e]
      intro q
      iterate 3 refine hV.go rfl ?_
      exact ⟨hp, by omega⟩
    · have e : hdF mL_turn.2.2.2.2.2.2 3 xUO = some 20 := by decide +kernel
      show (match hdF mL_turn.2.2.2.2.2.2 3 xUO with | some h => ∀ q : Nat, V h _ [vO q] u _ | none => noX xUO u)
      rw [e]
      intro q
      iterate 3 refine hV.go rfl ?_
      exact ⟨hp, by omega⟩
theorem w_image {w : Wd} {x : Int32} {y : Int32} {d b : Nat} {po : Option AV → Wd → Prop} (G : GL l E) (hd : d < 40) (H : Ctr l E d b mX4_image [vR 0, vI x, vI y] w (fun v z => ∃ r : Int32, v = some (vI r) ∧ po (some (vI 0)) (wJ z 50 0 0 r.toInt64)) (fun X z => (X = xIO ∧ po (some (vI 1)) z))) : Ctr l E 40 b mL_image [vR 0, vI x, vI y, vR 50] w po noX := by
  refine Ctr.ofH (d := 40) (b := b) G.2 oL_ok pgL_image (by decide) rfl (by decide) (by decide +kernel) (Nat.le_of_ble_eq_true rfl) ?_
  intro V hV
  iterate 6 refine hV.go rfl ?_
  refine And.intro (callP_x H hd (by omega) (fun v u hp => ?_) (fun X u hp => ?_)) trivial
  · obtain ⟨r, rfl, hp⟩ := hp
    iterate 2 refine hV.go rfl ?_
    refine Exists.intro 0 (And.intro rfl (And.intro (by decide) ?_))
    iterate 3 refine hV.go rfl ?_
    exact ⟨hp, by omega⟩
  · obtain ⟨rfl, hp⟩ := hp
    have e : hdF mL_image.2.2.2.2.2.2 5 xIO = some 13 := by decide +kernel
    show (match hdF mL_image.2.2.2.2.2.2 5 xIO with | some h => ∀ q : Nat, V h _ [vO q] u _ | none => noX xIO u)
    rw [e]
    intro q
    iterate 3 refine hV.go rfl ?_
    exact ⟨hp, by omega⟩
theorem w_move {w : Wd} {x : Int32} {d b : Nat} {po : Option AV → Wd → Prop} (G : GL l E) (hd : d < 40) (H : Ctr l E d b mX4_move [vR 0, vI x] w (fun v z => v = none ∧ po (some (vI 0)) z) (fun X z => (X = xIO ∧ po (some (vI 1)) z))) : Ctr l E 40 b mL_move [vR 0, vI x] w po noX := by
  refine Ctr.ofH (d := 40) (b := b) G.2 oL_ok pgL_move (by decide) rfl (by decide) (by decide +kernel) (Nat.le_of_ble_eq_true rfl) ?_
  intro V hV
  iterate 3 refine hV.go rfl ?_
  refine And.intro (callP_x H hd (by omega) (fun v u hp => ?_) (fun X u hp => ?_)) trivial
  · obtain ⟨rfl, hp⟩ := hp
    iterate 3 refine hV.go rfl ?_
    exact ⟨hp, by omega⟩
  · obtain ⟨rfl, hp⟩ := hp
    have e : hdF mL_move.2.2.2.2.2.2 2 xIO = some 8 := by decide +kernel
    show (match hdF mL_move.2.2.2.2.2.2 2 xIO with | some h => ∀ q : Nat, V h _ [vO q] u _ | none => noX xIO u)
    rw [e]
    intro q
    iterate 3 refine hV.go rfl ?_
    exact ⟨hp, by omega⟩
theorem w_swap {w : Wd} {x : Int32} {y : Int32} {d b : Nat} {po : Option AV → Wd → Prop} (G : GL l E) (hd : d < 40) (H : Ctr l E d b mX4_swap [vR 0, vI x, vI y] w (fun v z => v = none ∧ po (some (vI 0)) z) (fun X z => (X = xIO ∧ po (some (vI 1)) z))) : Ctr l E 40 b mL_swap [vR 0, vI x, vI y] w po noX := by
  refine Ctr.ofH (d := 40) (b := b) G.2 oL_ok pgL_swap (by decide) rfl (by decide) (by decide +kernel) (Nat.le_of_ble_eq_true rfl) ?_
  intro V hV
  iterate 4 refine hV.go rfl ?_
  refine And.intro (callP_x H hd (by omega) (fun v u hp => ?_) (fun X u hp => ?_)) trivial
  · obtain ⟨rfl, hp⟩ := hp
    iterate 3 refine hV.go rfl ?_
    exact ⟨hp, by omega⟩
  · obtain ⟨rfl, hp⟩ := hp
    have e : hdF mL_swap.2.2.2.2.2.2 3 xIO = some 9 := by decide +kernel
    show (match hdF mL_swap.2.2.2.2.2.2 3 xIO with | some h => ∀ q : Nat, V h _ [vO q] u _ | none => noX xIO u)
    rw [e]
    intro q
    iterate 3 refine hV.go rfl ?_
    exact ⟨hp, by omega⟩
theorem w_place {w : Wd} {x : Int32} {d b : Nat} {po : Option AV → Wd → Prop} (G : GL l E) (hd : d < 40) (H : Ctr l E d b mX4_place [vR 0, vI x] w (fun v z => ∃ r : Int32, v = some (vI r) ∧ po (some (vI 0)) (wJ z 50 0 0 r.toInt64)) (fun X z => (X = xIO ∧ po (some (vI 1)) z))) : Ctr l E 40 b mL_place [vR 0, vI x, vR 50] w po noX := by
  refine Ctr.ofH (d := 40) (b := b) G.2 oL_ok pgL_place (by decide) rfl (by decide) (by decide +kernel) (Nat.le_of_ble_eq_true rfl) ?_
  intro V hV
  iterate 5 refine hV.go rfl ?_
  refine And.intro (callP_x H hd (by omega) (fun v u hp => ?_) (fun X u hp => ?_)) trivial
  · obtain ⟨r, rfl, hp⟩ := hp
    iterate 2 refine hV.go rfl ?_
    refine Exists.intro 0 (And.intro rfl (And.intro (by decide) ?_))
    iterate 3 refine hV.go rfl ?_
    exact ⟨hp, by omega⟩
  · obtain ⟨rfl, hp⟩ := hp
    have e : hdF mL_place.2.2.2.2.2.2 4 xIO = some 12 := by decide +kernel
    show (match hdF mL_place.2.2.2.2.2.2 4 xIO with | some h => ∀ q : Nat, V h _ [vO q] u _ | none => noX xIO u)
    rw [e]
    intro q
    iterate 3 refine hV.go rfl ?_
    exact ⟨hp, by omega⟩
theorem w_orbit {w : Wd} {x : Int32} {d b : Nat} {po : Option AV → Wd → Prop} (G : GL l E) (hd : d < 40) (H : Ctr l E d b mX4_orbit [vR 0, vI x] w (fun v z => ∃ r : Int32, v = some (vI r) ∧ po (some (vI 0)) (wJ z 50 0 0 r.toInt64)) (fun X z => (X = xIO ∧ po (some (vI 1)) z))) : Ctr l E 40 b mL_orbit [vR 0, vI x, vR 50] w po noX := by
  refine Ctr.ofH (d := 40) (b := b) G.2 oL_ok pgL_orbit (by decide) rfl (by decide) (by decide +kernel) (Nat.le_of_ble_eq_true rfl) ?_
  intro V hV
  iterate 5 refine hV.go rfl ?_
  refine And.intro (callP_x H hd (by omega) (fun v u hp => ?_) (fun X u hp => ?_)) trivial
  · obtain ⟨r, rfl, hp⟩ := hp
    iterate 2 refine hV.go rfl ?_
    refine Exists.intro 0 (And.intro rfl (And.intro (by decide) ?_))
    iterate 3 refine hV.go rfl ?_
    exact ⟨hp, by omega⟩
  · obtain ⟨rfl, hp⟩ := hp
    have e : hdF mL_orbit.2.2.2.2.2.2 4 xIO = some 12 := by decide +kernel
    show (match hdF mL_orbit.2.2.2.2.2.2 4 xIO with | some h => ∀ q : Nat, V h _ [vO q] u _ | none => noX xIO u)
    rw [e]
    intro q
    iterate 3 refine hV.go rfl ?_
    exact ⟨hp, by omega⟩
theorem w_inOrbit {w : Wd} {x : Int32} {y : Int32} {d b : Nat} {po : Option AV → Wd → Prop} (G : GL l E) (hd : d < 40) (H : Ctr l E d b mX4_inOrbit [vR 0, vI x, vI y] w (fun v z => ∃ r : Bool, v = some (vI (b2i r)) ∧ po (some (vI 0)) (wJ z 50 0 0 (b2j r))) (fun X z => (X = xIO ∧ po (some (vI 1)) z))) : Ctr l E 40 b mL_inOrbit [vR 0, vI x, vI y, vR 50] w po noX := by
  refine Ctr.ofH (d := 40) (b := b) G.2 oL_ok pgL_inOrbit (by decide) rfl (by decide) (by decide +kernel) (Nat.le_of_ble_eq_true rfl) ?_
  intro V hV
  iterate 6 refine hV.go rfl ?_
  refine And.intro (callP_x H hd (by omega) (fun v u hp => ?_) (fun X u hp => ?_)) trivial
  · obtain ⟨r, rfl, hp⟩ := hp
    refine hV.go rfl ?_
    cases r with
    | true =>
      refine And.intro (fun hc => absurd (show (1 : Int32) = 0 from hc) (by decide)) (fun _ => ?_)
      iterate 3 refine hV.go rfl ?_
      refine Exists.intro 0 (And.intro rfl (And.intro (by decide) ?_))
      iterate 3 refine hV.go rfl ?_
      exact ⟨hp, by omega⟩
    | false =>
      refine And.intro (fun _ => ?_) (fun hc => absurd rfl hc)
      iterate 2 refine hV.go rfl ?_
      refine Exists.intro 0 (And.intro rfl (And.intro (by decide) ?_))
      iterate 3 refine hV.go rfl ?_
      exact ⟨hp, by omega⟩
  · obtain ⟨rfl, hp⟩ := hp
    have e : hdF mL_inOrbit.2.2.2.2.2.2 5 xIO = some 20 := by decide +kernel
    show (match hdF mL_inOrbit.2.2.2.2.2.2 5 xIO with | some h => ∀ q : Nat, V h _ [vO q] u _ | none => noX xIO u)
    rw [e]
    intro q
    iterate 3 refine hV.go rfl ?_
    exact ⟨hp, by omega⟩
theorem w_rank {w : Wd}  {d b : Nat} {po : Option AV → Wd → Prop} (G : GL l E) (hd : d < 40) (H : Ctr l E d b mX4_rank [vR 0] w (fun v z => ∃ r : Int64, v = some (vJ r) ∧ po (some (vI 0)) (wJ z 50 0 0 r)) (fun X z => (X = xIS ∧ po (some (vI 1)) z))) : Ctr l E 40 b mL_rank [vR 0, vR 50] w po noX := by
  refine Ctr.ofH (d := 40) (b := b) G.2 oL_ok pgL_rank (by decide) rfl (by decide) (by decide +kernel) (Nat.le_of_ble_eq_true rfl) ?_
  intro V hV
  iterate 4 refine hV.go rfl ?_
  refine And.intro (callP_x H hd (by omega) (fun v u hp => ?_) (fun X u hp => ?_)) trivial
  · obtain ⟨r, rfl, hp⟩ := hp
    iterate 1 refine hV.go rfl ?_
    refine Exists.intro 0 (And.intro rfl (And.intro (by decide) ?_))
    iterate 3 refine hV.go rfl ?_
    exact ⟨hp, by omega⟩
  · obtain ⟨rfl, hp⟩ := hp
    have e : hdF mL_rank.2.2.2.2.2.2 3 xIS = some 10 := by decide +kernel
    show (match hdF mL_rank.2.2.2.2.2.2 3 xIS with | some h => ∀ q : Nat, V h _ [vO q] u _ | none => noX xIS u)
    rw [e]
    intro q
    iterate 3 refine hV.go rfl ?_
    exact ⟨hp, by omega⟩
theorem w_unrank {w : Wd} {j : Int64} {d b : Nat} {po : Option AV → Wd → Prop} (G : GL l E) (hd : d < 40) (H : Ctr l E d b mX4_unrank [vR 0, vJ j] w (fun v z => v = none ∧ po (some (vI 0)) z) (fun X z => (X = xNS ∧ po (some (vI 1)) z))) : Ctr l E 40 b mL_unrank [vR 0, vJ j] w po noX := by
  refine Ctr.ofH (d := 40) (b := b) G.2 oL_ok pgL_unrank (by decide) rfl (by decide) (by decide +kernel) (Nat.le_of_ble_eq_true rfl) ?_
  intro V hV
  iterate 3 refine hV.go rfl ?_
  refine And.intro (callP_x H hd (by omega) (fun v u hp => ?_) (fun X u hp => ?_)) trivial
  · obtain ⟨rfl, hp⟩ := hp
    iterate 3 refine hV.go rfl ?_
    exact ⟨hp, by omega⟩
  · obtain ⟨rfl, hp⟩ := hp
    have e : hdF mL_unrank.2.2.2.2.2.2 2 xNS = some 8 := by decide +kernel
    show (match hdF mL_unrank.2.2.2.2.2.2 2 xNS with | some h => ∀ q : Nat, V h _ [vO q] u _ | none => noX xNS u)
    rw [e]
    intro q
    iterate 3 refine hV.go rfl ?_
    exact ⟨hp, by omega⟩
theorem w_block {w : Wd} {x : Int32} {y : Int32} {d b : Nat} {po : Option AV → Wd → Prop} (G : GL l E) (hd : d < 40) (H : Ctr l E d b mX4_block [vR 0, vI x, vI y] w (fun v z => ∃ r : Int32, v = some (vI r) ∧ po (some (vI 0)) (wJ z 50 0 0 r.toInt64)) (fun X z => (X = xIO ∧ po (some (vI 1)) z))) : Ctr l E 40 b mL_block [vR 0, vI x, vI y, vR 50] w po noX := by
  refine Ctr.ofH (d := 40) (b := b) G.2 oL_ok pgL_block (by decide) rfl (by decide) (by decide +kernel) (Nat.le_of_ble_eq_true rfl) ?_
  intro V hV
  iterate 6 refine hV.go rfl ?_
  refine And.intro (callP_x H hd (by omega) (fun v u hp => ?_) (fun X u hp => ?_)) trivial
  · obtain ⟨r, rfl, hp⟩ := hp
    iterate 2 refine hV.go rfl ?_
    refine Exists.intro 0 (And.intro rfl (And.intro (by decide) ?_))
    iterate 3 refine hV.go rfl ?_
    exact ⟨hp, by omega⟩
  · obtain ⟨rfl, hp⟩ := hp
    have e : hdF mL_block.2.2.2.2.2.2 5 xIO = some 13 := by decide +kernel
    show (match hdF mL_block.2.2.2.2.2.2 5 xIO with | some h => ∀ q : Nat, V h _ [vO q] u _ | none => noX xIO u)
    rw [e]
    intro q
    iterate 3 refine hV.go rfl ?_
    exact ⟨hp, by omega⟩
theorem w_diameter {w : Wd}  {d b : Nat} {po : Option AV → Wd → Prop} (G : GL l E) (hd : d < 40) (H : Ctr l E d b mX4_diameter [vR 0] w (fun v z => ∃ r : Int32, v = some (vI r) ∧ po (some (vI 0)) (wJ z 50 0 0 r.toInt64)) (fun X z => (X = xUO ∧ po (some (vI 1)) z))) : Ctr l E 40 b mL_diameter [vR 0, vR 50] w po noX := by
  refine Ctr.ofH (d := 40) (b := b) G.2 oL_ok pgL_diameter (by decide) rfl (by decide) (by decide +kernel) (Nat.le_of_ble_eq_true rfl) ?_
  intro V hV
  iterate 4 refine hV.go rfl ?_
  refine And.intro (callP_x H hd (by omega) (fun v u hp => ?_) (fun X u hp => ?_)) trivial
  · obtain ⟨r, rfl, hp⟩ := hp
    iterate 2 refine hV.go rfl ?_
    refine Exists.intro 0 (And.intro rfl (And.intro (by decide) ?_))
    iterate 3 refine hV.go rfl ?_
    exact ⟨hp, by omega⟩
  · obtain ⟨rfl, hp⟩ := hp
    have e : hdF mL_diameter.2.2.2.2.2.2 3 xUO = some 11 := by decide +kernel
    show (match hdF mL_diameter.2.2.2.2.2.2 3 xUO with | some h => ∀ q : Nat, V h _ [vO q] u _ | none => noX xUO u)
    rw [e]
    intro q
    iterate 3 refine hV.go rfl ?_
    exact ⟨hp, by omega⟩
theorem w_atDistance {w : Wd} {x : Int32} {d b : Nat} {po : Option AV → Wd → Prop} (G : GL l E) (hd : d < 40) (H : Ctr l E d b mX4_atDistance [vR 0, vI x] w (fun v z => ∃ r : Int32, v = some (vI r) ∧ po (some (vI 0)) (wJ z 50 0 0 r.toInt64)) (fun X z => (X = xUO ∧ po (some (vI 1)) z))) : Ctr l E 40 b mL_atDistance [vR 0, vI x, vR 50] w po noX := by
  refine Ctr.ofH (d := 40) (b := b) G.2 oL_ok pgL_atDistance (by decide) rfl (by decide) (by decide +kernel) (Nat.le_of_ble_eq_true rfl) ?_
  intro V hV
  iterate 5 refine hV.go rfl ?_
  refine And.intro (callP_x H hd (by omega) (fun v u hp => ?_) (fun X u hp => ?_)) trivial
  · obtain ⟨r, rfl, hp⟩ := hp
    iterate 2 refine hV.go rfl ?_
    refine Exists.intro 0 (And.intro rfl (And.intro (by decide) ?_))
    iterate 3 refine hV.go rfl ?_
    exact ⟨hp, by omega⟩
  · obtain ⟨rfl, hp⟩ := hp
    have e : hdF mL_atDistance.2.2.2.2.2.2 4 xUO = some 12 := by decide +kernel
    show (match hdF mL_atDistance.2.2.2.2.2.2 4 xUO with | some h => ∀ q : Nat, V h _ [vO q] u _ | none => noX xUO u)
    rw [e]
    intro q
    iterate 3 refine hV.go rfl ?_
    exact ⟨hp, by omega⟩
theorem w_solve {w : Wd}  {d b : Nat} {po : Option AV → Wd → Prop} (G : GL l E) (hd : d < 40) (H : Ctr l E d b mX4_solve [vR 0] w (fun v z => ∃ r : Int32, v = some (vI r) ∧ po (some (vI 0)) (wJ z 50 0 0 r.toInt64)) (fun X z => (X = xUO ∧ po (some (vI 1)) z) ∨ (X = xIS ∧ po (some (vI 2)) z))) : Ctr l E 40 b mL_solve [vR 0, vR 50] w po noX := by
  refine Ctr.ofH (d := 40) (b := b) G.2 oL_ok pgL_solve (by decide) rfl (by decide) (by decide +kernel) (Nat.le_of_ble_eq_true rfl) ?_
  intro V hV
  iterate 4 refine hV.go rfl ?_
  refine And.intro (callP_x H hd (by omega) (fun v u hp => ?_) (fun X u hp => ?_)) trivial
  · obtain ⟨r, rfl, hp⟩ := hp
    iterate 2 refine hV.go rfl ?_
    refine Exists.intro 0 (And.intro rfl (And.intro (by decide) ?_))
    iterate 3 refine hV.go rfl ?_
    exact ⟨hp, by omega⟩
  · rcases hp with ⟨rfl, hp⟩ | ⟨rfl, hp⟩
    · have e : hdF mL_solve.2.2.2.2.2.2 3 xUO = some 11 := by decide +kernel
      show (match hdF mL_solve.2.2.2.2.2.2 3 xUO with | some h => ∀ q : Nat, V h _ [vO q] u _ | none => noX xUO u)
      rw [e]
      intro q
      iterate 3 refine hV.go rfl ?_
      exact ⟨hp, by omega⟩
    · have e : hdF mL_solve.2.2.2.2.2.2 3 xIS = some 14 := by decide +kernel
      show (match hdF mL_solve.2.2.2.2.2.2 3 xIS with | some h => ∀ q : Nat, V h _ [vO q] u _ | none => noX xIS u)
      rw [e]
      intro q
      iterate 3 refine hV.go rfl ?_
      exact ⟨hp, by omega⟩
theorem w_within {w : Wd} {x : Int32} {d b : Nat} {po : Option AV → Wd → Prop} (G : GL l E) (hd : d < 40) (H : Ctr l E d b mX4_within [vR 0, vI x] w (fun v z => ∃ r : Int32, v = some (vI r) ∧ po (some (vI 0)) (wJ z 50 0 0 r.toInt64)) (fun X z => (X = xIA ∧ po (some (vI 1)) z))) : Ctr l E 40 b mL_within [vR 0, vI x, vR 50] w po noX := by
  refine Ctr.ofH (d := 40) (b := b) G.2 oL_ok pgL_within (by decide) rfl (by decide) (by decide +kernel) (Nat.le_of_ble_eq_true rfl) ?_
  intro V hV
  iterate 5 refine hV.go rfl ?_
  refine And.intro (callP_x H hd (by omega) (fun v u hp => ?_) (fun X u hp => ?_)) trivial
  · obtain ⟨r, rfl, hp⟩ := hp
    iterate 2 refine hV.go rfl ?_
    refine Exists.intro 0 (And.intro rfl (And.intro (by decide) ?_))
    iterate 3 refine hV.go rfl ?_
    exact ⟨hp, by omega⟩
  · obtain ⟨rfl, hp⟩ := hp
    have e : hdF mL_within.2.2.2.2.2.2 4 xIA = some 12 := by decide +kernel
    show (match hdF mL_within.2.2.2.2.2.2 4 xIA with | some h => ∀ q : Nat, V h _ [vO q] u _ | none => noX xIA u)
    rw [e]
    intro q
    iterate 3 refine hV.go rfl ?_
    exact ⟨hp, by omega⟩
theorem w_write {w : Wd} {x : Int32} {d b : Nat} {po : Option AV → Wd → Prop} (G : GL l E) (hd : d < 40) (H : Ctr l E d b mX4_write [vR 0, vI x] w (fun v z => ∃ r : Int32, v = some (vI r) ∧ po (some (vI 0)) (wJ z 50 0 0 r.toInt64)) (fun X z => (X = xIO ∧ po (some (vI 1)) z))) : Ctr l E 40 b mL_write [vR 0, vI x, vR 50] w po noX := by
  refine Ctr.ofH (d := 40) (b := b) G.2 oL_ok pgL_write (by decide) rfl (by decide) (by decide +kernel) (Nat.le_of_ble_eq_true rfl) ?_
  intro V hV
  iterate 5 refine hV.go rfl ?_
  refine And.intro (callP_x H hd (by omega) (fun v u hp => ?_) (fun X u hp => ?_)) trivial
  · obtain ⟨r, rfl, hp⟩ := hp
    iterate 2 refine hV.go rfl ?_
    refine Exists.intro 0 (And.intro rfl (And.intro (by decide) ?_))
    iterate 3 refine hV.go rfl ?_
    exact ⟨hp, by omega⟩
  · obtain ⟨rfl, hp⟩ := hp
    have e : hdF mL_write.2.2.2.2.2.2 4 xIO = some 12 := by decide +kernel
    show (match hdF mL_write.2.2.2.2.2.2 4 xIO with | some h => ∀ q : Nat, V h _ [vO q] u _ | none => noX xIO u)
    rw [e]
    intro q
    iterate 3 refine hV.go rfl ?_
    exact ⟨hp, by omega⟩
end
