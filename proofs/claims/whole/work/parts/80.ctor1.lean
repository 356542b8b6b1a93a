/-! a constructor's call: its start and what comes behind it -/
theorem SF.to {A1 A2 : Nat → Nat → Nat} {D : va_G} {C : Nat → ClassId} {k1 k2 : List (Nat × Nat)} {s U : State} {a b : Nat} {H H1 : Heap} (hW : s.WarmedH U.vm) (hk : ∀ q : Nat, q < H.size → ¬ AE (A1, D, C, k1) a q → H1[q]? = H[q]?) (hn : ∀ q, AE (A2, D, C, k2) b q → AE (A1, D, C, k1) a q) (h : SF (A1, D, C, k1) s a H) : SF (A2, D, C, k2) U b H1 := by
  obtain ⟨h1, h2, h3, h4, h5⟩ := h
  exact ⟨va_K.moved hW.alike h1, h2.moved hW, h3.moved hW, ((h4.kept hk).moved hW.alike).narrow hn, ((h5.kept hk).moved hW.alike).narrow hn⟩
theorem va_S.mono {A B : Nat → Prop} {H0 H : Heap} {locs : List Loc} (h : va_S A H0 H locs) (hAB : ∀ q, A q → B q) : va_S B H0 H locs := ⟨h.1, fun q h1 h2 => h.2.1 q h1 (fun z => h2 (hAB q z)), fun q hq => hAB _ (h.2.2 q hq)⟩
theorem va_S.keep {A : Nat → Prop} {H0 H : Heap} {locs : List Loc} (h : va_S A H0 H locs) : ∀ q : Nat, q < H0.size → ¬ A q → H[q]? = H0[q]? := h.2.1
theorem va_nd_of : ∀ l : List Nat, l.Nodup → va_nd l = true
  | [], _ => rfl
  | a :: l, h => by
    rw [List.nodup_cons] at h
    simp only [va_nd, Bool.and_eq_true, decide_eq_true_eq]
    exact ⟨h.1, va_nd_of l h.2⟩
theorem end_C {ws : va_W} {x : Nat × va_E} : [ws.length].map (fun i => (ws ++ [x])[i]?) = [x].map some := by simp
theorem end_R {ws : va_W} {x : Nat × va_E} : (List.range ws.length).map (fun i => (ws ++ [x])[i]?) = ws.map some := by
  apply List.ext_getElem?
  intro j
  simp only [List.getElem?_map]
  by_cases hj : j < ws.length
  · rw [List.getElem?_range hj, Option.map_some, List.getElem?_append_left hj, List.getElem?_eq_getElem hj]
    rfl
  · rw [List.getElem?_eq_none (by simp; omega : (List.range ws.length).length ≤ j), List.getElem?_eq_none (by omega : ws.length ≤ j)]
    rfl
theorem end_P {D : va_G} {cl : List vw_C} {ws : va_W} {x : Nat × va_E} {H : Heap} (h : va_P D cl (ws ++ [x]) H) : va_P D cl [x] H := fun k q hq => by
  match k, hq with
  | 0, hq =>
    cases hq
    exact h ws.length x (by simp)
  | k + 1, hq => cases hq
theorem end_D {A B : Nat → Prop} {ws : va_W} {x : Nat × va_E} (h : va_D A (ws ++ [x])) (hB : B x.1) : va_D B [x] := ⟨fun i j p q hp hq _ => by
  have h1 := (List.getElem?_eq_some_iff.mp hp).1
  have h2 := (List.getElem?_eq_some_iff.mp hq).1
  simp only [List.length_cons, List.length_nil] at h1 h2
  omega, fun k q hq => by
  have h1 := (List.getElem?_eq_some_iff.mp hq).1
  simp only [List.length_cons, List.length_nil] at h1
  have e : k = 0 := by omega
  subst e
  cases hq
  exact hB⟩
section
variable {p : Program} {l : Launch} {e : Env} {R : Room} {s : State} {m : MethodId} {args : Array Value} {below : List Frame} {meth : Method} {c : Code} {H H0 : Heap} {locs : List Loc} {cells slots : Nat} {Q : State → Prop}
variable {pc : Nat} {ls : Array Slot} {rest st0 : List Value} {D : va_G} {C : Nat → ClassId} {A : Nat → Prop} {ws : va_W} {q : Nat} {e0 : va_E}
theorem nw_after {k0 : Nat} {kl : List (Nat × Nat)} {w : Wd} {mc ms : Nat} {a : Array Value} (hr : va_Run p l e R s m args below meth c H locs cells slots mc ms (F0 m pc ls st0) rest (CPost D C q H.size e0 k0 kl w a) (va_A [(q, e0)] H.size)) (hP : va_P D vwCl (ws ++ [(q, e0)]) H) (hD : va_D A (ws ++ [(q, e0)])) (hS : va_S A H0 H locs) (hA : ∀ x, H0.size ≤ x → A x)
    (kk : ∀ (u : Nat → Nat → Nat) (H1 : Heap) (locs1 : List Loc), u k0 0 = q → va_P D vwCl (ws ++ wl (u, D, C, kl) w) H1 → va_D A (ws ++ wl (u, D, C, kl) w) → va_S A H0 H1 locs1 → W p l e R s m args below meth c H1 locs1 (cells + mc) (slots + ms) Q (F0 m (pc + 3) ls rest)) : W p l e R s m args below meth c H locs cells slots Q (F0 m pc ls st0) := by
  have hF : ∀ x, va_A [(q, e0)] H.size x → A x := va_free hD hS hA [ws.length] end_C
  refine va_callv hr hS (fun x _ h => hF x h) hF (fun u t H1 locs1 ht hvm h0 hB hz hk hS1 => ?_)
  obtain ⟨hP1, hD1⟩ := hB
  rw [ht] at hP1
  obtain ⟨hP2, hD2⟩ := va_join (wr := ws) hP hD [ws.length] (List.range ws.length) end_C end_R (va_nd_of _ List.nodup_range) (fun i hi h => by
    rw [List.mem_range] at hi
    rw [List.mem_singleton] at h
    omega) hk hF hP1 hD1
  exact kk u H1 locs1 h0 hP2 hD2 hS1
theorem cpre_of {A1 : Nat → Nat → Nat} {k1 : List (Nat × Nat)} (hSF : SF (A1, D, C, k1) s s.heap.size s.heap) (hAO : AOs s) (hP : va_P D vwCl (ws ++ [(q, e0)]) H) (hD : va_D A (ws ++ [(q, e0)])) (hS : va_S A s.heap H locs) (hAE : ∀ x, A x → AE (A1, D, C, k1) s.heap.size x) :
    ∀ U : State, U.heap = H → s.WarmedH U.vm → CPre D C q H.size e0 U := by
  intro U hU hW
  have hq : A q := hD.2 ws.length (q, e0) (by simp)
  refine ⟨by rw [hU], by rw [hU]; exact end_P hP, ?_, end_D (x := (q, e0)) hD trivial, hAO.moved hW.alike⟩
  rw [hU]
  refine hSF.to hW (fun x h1 h2 => hS.2.1 x h1 (fun z => h2 (hAE x z))) (fun x hx => ?_)
  rcases hx with ⟨y, _, hy⟩ | hx
  · have hy : q = x := hy
    rw [← hy]
    exact hAE q hq
  · exact Or.inr (Nat.le_trans hS.1 hx)
end
/-- the links of the three private constructors -/
def NW (U : State) : Prop := va_Nw (.methodLinkNest RX4 9 yX3_init RX4) U ∧ va_Nw (.methodLinkNest RX4 18 yX1_init RX4) U ∧ va_Nw (.methodLinkNest RX4 25 yX0_init RX4) U
theorem NW.moved {s U : State} (hW : s.WarmedH U.vm) (h : NW s) : NW U := ⟨va_Nw.warmM hW h.1, va_Nw.warmM hW h.2.1, va_Nw.warmM hW h.2.2⟩
abbrev eX0 : va_E := .inr (3, [.null, .null, .null, .null, .null, .null, .int 0, .int 0, .int 0, .long 0, .int 0])
def XPre (D : va_G) (C : Nat → ClassId) (a sz : Nat) : State → Prop := fun U => CPre D C a sz eX0 U ∧ NW U
theorem XPre.blind {D : va_G} {C : Nat → ClassId} {a sz : Nat} {As : List Value} : FrameBlind (va_Pc As (XPre D C a sz)) := by
  intro b U g mk ⟨h1, h2, h3⟩
  have h := CPre.blind (D := D) (C := C) (a := a) (sz := sz) (e0 := eX0) (As := As) b U g mk ⟨h1, h2⟩
  exact ⟨h.1, h.2, h3.moved (U := U.calling g mk b) (State.WarmedH.refl U)⟩
