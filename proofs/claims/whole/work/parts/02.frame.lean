/-! memory as a map: what stands at an address; one world for a whole run, no cutting and joining -/
abbrev mw_M : Type := Nat → Option va_E
def mw_up (M : mw_M) (a : Nat) (e : va_E) : mw_M := fun q => if q = a then some e else M q
theorem mw_up_s (M : mw_M) (a : Nat) (e : va_E) : mw_up M a e a = some e := by simp [mw_up]
theorem mw_up_n {M : mw_M} {a q : Nat} {e : va_E} (h : q ≠ a) : mw_up M a e q = M q := by simp [mw_up, h]
/-- what is fixed for a run: class and slot numbers, array classes, the first address that is ours, the constant tables' addresses -/
abbrev mw_G : Type := va_G × (Nat → ClassId) × Nat × (Nat → Nat)
def mw_A (g : mw_G) : Nat → Prop := fun q => g.2.2.1 ≤ q
def mw_tys (g : mw_G) : List (ClassId × FieldType) := [(g.2.1 0, .int), (g.2.1 1, .long), (g.2.1 2, .double), (g.2.1 3, .boolean), (g.2.1 4, .object "MappingMoves$Column"), (g.2.1 5, .object "MappingMoves$Part")]
def mw_H (g : mw_G) (M : mw_M) (H : Heap) : Prop := ∃ ws : va_W, va_P g.1 vwCl ws H ∧ va_D (mw_A g) ws ∧ ∀ (a : Nat) (e : va_E), M a = some e → ∃ k : Nat, ws[k]? = some (a, e)
theorem mw_H.set {g : mw_G} {M : mw_M} {H1 : Heap} {ws : va_W} {k a : Nat} {e0 e : va_E} (hk : ws[k]? = some (a, e0)) (hM : ∀ (a : Nat) (e : va_E), M a = some e → ∃ k : Nat, ws[k]? = some (a, e)) (hP : va_P g.1 vwCl (ws.set k (a, e)) H1) (hD : va_D (mw_A g) (ws.set k (a, e))) : mw_H g (mw_up M a e) H1 := by
  refine ⟨_, hP, hD, fun q x hq => ?_⟩
  by_cases h : q = a
  · subst h
    rw [mw_up_s] at hq
    cases hq
    exact ⟨k, List.getElem?_set_self (List.getElem?_eq_some_iff.mp hk).1⟩
  · rw [mw_up_n h] at hq
    obtain ⟨j, hj⟩ := hM q x hq
    refine ⟨j, ?_⟩
    rw [List.getElem?_set_ne]
    · exact hj
    · intro hjk
      subst hjk
      rw [hk] at hj
      cases hj
      exact h rfl
theorem mw_H.push {g : mw_G} {M : mw_M} {H1 : Heap} {ws : va_W} {a : Nat} {e : va_E} (hM : ∀ (a : Nat) (e : va_E), M a = some e → ∃ k : Nat, ws[k]? = some (a, e)) (hP : va_P g.1 vwCl (ws ++ [(a, e)]) H1) (hD : va_D (mw_A g) (ws ++ [(a, e)])) : M a = none ∧ mw_H g (mw_up M a e) H1 := by
  have hlast : (ws ++ [(a, e)])[ws.length]? = some (a, e) := by simp
  have hin : ∀ (q : Nat) (x : va_E), M q = some x → ∃ k : Nat, k < ws.length ∧ (ws ++ [(a, e)])[k]? = some (q, x) := by
    intro q x hq
    obtain ⟨k, hk⟩ := hM q x hq
    have hl := (List.getElem?_eq_some_iff.mp hk).1
    exact ⟨k, hl, by rw [List.getElem?_append_left hl]; exact hk⟩
  refine ⟨?_, _, hP, hD, fun q x hq => ?_⟩
  · cases h : M a with
    | none => rfl
    | some x =>
      obtain ⟨k, hl, hk⟩ := hin a x h
      have := hD.1 k ws.length _ _ hk hlast rfl
      omega
  · by_cases h : q = a
    · subst h
      rw [mw_up_s] at hq
      cases hq
      exact ⟨_, hlast⟩
    · rw [mw_up_n h] at hq
      obtain ⟨k, -, hk⟩ := hin q x hq
      exact ⟨k, hk⟩
/-- a method: its name, code, locals, answer, words, room -/
abbrev mw_I : Type := MethodName × ByteArray × Nat × Option FieldType × List Cond × Room
/-- words across the nest -/
def mw_nest : List Cond := [.fieldLinkNest "MappingMoves" 54 "MappingMoves$Column" "kind" "I" "MappingMoves", .fieldLinkNest "MappingMoves" 60 "MappingMoves$Column" "size" "I" "MappingMoves", .fieldLinkNest "MappingMoves" 91 "MappingMoves$Column" "wholes" "[J" "MappingMoves", .fieldLinkNest "MappingMoves" 136 "MappingMoves$Part" "sort" "I" "MappingMoves", .fieldLinkNest "MappingMoves" 130 "MappingMoves$Part" "timesLaid" "I" "MappingMoves", .fieldLinkNest "MappingMoves" 139 "MappingMoves$Part" "faultCode" "I" "MappingMoves", .methodLinkNest "MappingMoves$Column" 39 yX2_isRealKind "MappingMoves"]
def mw_least (j : Nat) : Int64 := match j with
  | 0 => -128
  | 1 => -32768
  | 2 => 0
  | 3 => -2147483648
  | _ => -9223372036854775808
def mw_great (j : Nat) : Int64 := match j with
  | 0 => 127
  | 1 => 32767
  | 2 => 65535
  | 3 => 2147483647
  | _ => 9223372036854775807
/-- what holds of the tables and of the constant cells, wherever the run is -/
def mw_K (g : mw_G) (U : State) (H : Heap) : Prop :=
  va_K g.1 vwCl (mw_tys g) U ∧ (∀ w ∈ mw_nest, va_Nw w U) ∧ (va_AO "MappingMoves$Column" U ∧ va_AO "MappingMoves$Part" U) ∧
  (va_Z "MappingMoves$Column" "LEAST" "[J" (.ref (g.2.2.2 0)) (mw_A g) U H ∧ va_T .long (g.2.2.2 0) 5 (fun j => .long (mw_least j)) (mw_A g) U H) ∧
  (va_Z "MappingMoves$Column" "GREATEST" "[J" (.ref (g.2.2.2 1)) (mw_A g) U H ∧ va_T .long (g.2.2.2 1) 5 (fun j => .long (mw_great j)) (mw_A g) U H)
theorem mw_Nw_warm {s U : State} (hW : s.WarmedH U.vm) : ∀ w ∈ mw_nest, va_Nw w s → va_Nw w U := by
  intro w hw h
  simp only [mw_nest, List.mem_cons, List.not_mem_nil, or_false] at hw
  rcases hw with rfl | rfl | rfl | rfl | rfl | rfl | rfl
  · exact va_Nw.warmF hW h
  · exact va_Nw.warmF hW h
  · exact va_Nw.warmF hW h
  · exact va_Nw.warmF hW h
  · exact va_Nw.warmF hW h
  · exact va_Nw.warmF hW h
  · exact va_Nw.warmM hW h
