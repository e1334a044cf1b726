/-! the two memories behind the making: all references stand; methods as functions of the memories -/
abbrev SM := MI × ML
abbrev gm (M : SM) : GM := (336, R0, M)
def wI (M : SM) (c i : Nat) (v : Int32) : SM := (upI M.1 c i v, M.2)
def wL (M : SM) (c i : Nat) (v : Int64) : SM := (M.1, upL M.2 c i v)
def ck {β : Type} (b : Bool) (k : Option β) : Option β := bif b then k else none
def ob {α β : Type} (o : Option (α × SM)) (k : α → SM → Option β) : Option β := match o with
  | none => none
  | some q => k q.1 q.2
def jn {α β : Type} (f : α) (g : α → β) : β := g f
def om {β : Type} (o : Option Nat) (a : β) (f : Nat → β) : β := match o with
  | none => a
  | some s => f s
theorem ck_some {β : Type} {b : Bool} {k : Option β} {z : β} (h : ck b k = some z) : b = true ∧ k = some z := by
  cases b
  · cases h
  · exact ⟨rfl, h⟩
theorem ob_some {α β : Type} {o : Option (α × SM)} {k : α → SM → Option β} {z : β} (h : ob o k = some z) : ∃ r M, o = some (r, M) ∧ k r M = some z := by
  cases o with
  | none => cases h
  | some q => exact ⟨q.1, q.2, rfl, h⟩
theorem om_none {β : Type} {a : β} {f : Nat → β} {z : β} (h : om none a f = z) : a = z := h
theorem om_some {β : Type} {a : β} {f : Nat → β} {s : Nat} {z : β} (h : om (some s) a f = z) : f s = z := h
/-- as often as any loop may run -/
def FU : Nat := 1000000
theorem jn_i {α β : Type} {f : α} {g : α → β} {z : β} (h : jn f g = z) : g f = z := h
theorem and_t {a b : Bool} (h : (a && b) = true) : a = true ∧ b = true := by
  cases a <;> cases b <;> first | (exact ⟨rfl, rfl⟩) | cases h
theorem and_i {a b : Bool} (h : a = true) (h2 : b = true) : (a && b) = true := by
  subst h; subst h2; rfl
theorem some_p {α β : Type} {a c : α} {b d : β} (h : some (a, b) = some (c, d)) : a = c ∧ b = d := by
  cases h
  exact ⟨rfl, rfl⟩
theorem jn_e {α β : Type} {f : α} {g : α → β} {z : β} {C : Prop} {P : α → Prop} (h : jn f g = z) (hf : P f) (k : ∀ j : α, P j → g j = z → C) : C := k f hf h
def lt {α β : Type} (a : α) (f : α → β) : β := f a
theorem lt_g {α β : Type} {a : α} {f : α → β} {z : β} {C : Prop} (h : lt a f = z) (k : ∀ x : α, x = a → f x = z → C) : C := k a rfl h
