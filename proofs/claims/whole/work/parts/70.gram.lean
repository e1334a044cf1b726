/-! the grammar, purely: a recursive descent, and a machine with a stack of waiting signs -/
abbrev yL : Type := List (Nat × Nat)
abbrev yR : Type := (Nat × Nat) ⊕ (Nat × yL)
def yDg (c : Nat) : Bool := Nat.ble 48 c && Nat.ble c 57
def yLt (c : Nat) : Bool := Nat.ble 65 c && Nat.ble c 90
def yFc (c : Nat) : Option Nat := if c = 103 then some 0 else if c = 100 then some 1 else if c = 115 then some 2 else if c = 110 then some 3 else if c = 121 then some 4 else if c = 102 then some 5 else if c = 104 then some 6 else if c = 105 then some 7 else if c = 111 then some 8 else if c = 119 then some 9 else none
def yOp (c : Nat) : Option Nat := if c = 43 then some 3 else if c = 45 then some 4 else if c = 42 then some 5 else if c = 47 then some 6 else if c = 37 then some 7 else if c = 95 then some 8 else if c = 94 then some 9 else none
def yCm (c : Nat) : Option Nat := if c = 60 then some 10 else if c = 62 then some 11 else if c = 61 then some 12 else none
def yBd (op : Nat) : Nat := if 8 ≤ op then 3 else if 5 ≤ op then 2 else 1
def yDs (sg : Nat → Nat) : Nat → Nat → Nat → Nat ⊕ (Nat × Nat)
  | 0, p, v => if yDg (sg p) = true then Sum.inl p else Sum.inr (p, v)
  | k + 1, p, v => if yDg (sg p) = true then yDs sg k (p + 1) (10 * v + (sg p - 48)) else Sum.inr (p, v)
def yFa (sg : Nat → Nat) (ch : Nat → Nat → yR) (o p : Nat) : yR :=
  if sg p = 40 then
    (if o < 6 then
      (match ch (o + 1) (p + 1) with
      | Sum.inl f => Sum.inl f
      | Sum.inr r => if sg r.1 = 41 then Sum.inr (r.1 + 1, r.2) else Sum.inl (1, r.1))
    else Sum.inl (5, p))
  else if yDg (sg p) = true then
    (match yDs sg 6 p 0 with
    | Sum.inl q => Sum.inl (2, q)
    | Sum.inr r => Sum.inr (r.1, [(48, r.2)]))
  else if yLt (sg p) = true then Sum.inr (p + 1, [(65, sg p - 65)])
  else (match yFc (sg p) with
    | none => Sum.inl (1, p)
    | some w => Sum.inr (p + 1, [(102, w)]))
def yLv (l c : Nat) : Bool := match yOp c with
  | none => false
  | some op => Nat.beq (yBd op) l
def yLo (sg : Nat → Nat) (l : Nat) (sub : Nat → yR) : Nat → Nat → yL → yR
  | 0, _, _ => Sum.inl (0, 0)
  | k + 1, p, s => if yLv l (sg p) = true then
      (match sub (p + 1) with
      | Sum.inl f => Sum.inl f
      | Sum.inr r => yLo sg l sub k r.1 (s ++ r.2 ++ [(sg p, 0)]))
    else Sum.inr (p, s)
def yBi (sg : Nat → Nat) (n l : Nat) (sub : Nat → yR) (p : Nat) : yR :=
  match sub p with
  | Sum.inl f => Sum.inl f
  | Sum.inr r => yLo sg l sub (n + 1) r.1 r.2
def ySu (sg : Nat → Nat) (n : Nat) (ch : Nat → Nat → yR) (o : Nat) : Nat → yR := yBi sg n 1 (yBi sg n 2 (yBi sg n 3 (yFa sg ch o)))
def yC1 (sg : Nat → Nat) (n : Nat) (ch : Nat → Nat → yR) (o p : Nat) : yR :=
  match ySu sg n ch o p with
  | Sum.inl f => Sum.inl f
  | Sum.inr r1 =>
    match yCm (sg r1.1) with
    | none => Sum.inr r1
    | some _ =>
      match ySu sg n ch o (r1.1 + 1) with
      | Sum.inl f => Sum.inl f
      | Sum.inr r2 =>
        if sg r2.1 = 63 then
          (if o < 6 then
            (match ch (o + 1) (r2.1 + 1) with
            | Sum.inl f => Sum.inl f
            | Sum.inr r3 => if sg r3.1 = 58 then
                (match ch (o + 1) (r3.1 + 1) with
                | Sum.inl f => Sum.inl f
                | Sum.inr r4 => Sum.inr (r4.1, r1.2 ++ r2.2 ++ r3.2 ++ r4.2 ++ [(sg r1.1, 0)]))
              else Sum.inl (1, r3.1))
          else Sum.inl (5, r2.1))
        else Sum.inl (1, r2.1)
def yCh (sg : Nat → Nat) (n : Nat) : Nat → Nat → Nat → yR
  | 0, _, _ => Sum.inl (0, 0)
  | k + 1, o, p => yC1 sg n (yCh sg n k) o p
/-! the machine -/
def yCl (l : Nat) : yL → yL → yL × yL
  | [], cs => ([], cs)
  | x :: ws, cs => if 3 ≤ x.1 ∧ x.1 ≤ 9 ∧ l ≤ yBd x.1 then yCl l ws (cs ++ [(x.1, 0)]) else (x :: ws, cs)
def yLn : yL → yL → Nat → yL × yL × Nat
  | [], cs, o => ([], cs, o)
  | x :: ws, cs, o => if x.1 = 17 then yLn ws (cs.set x.2 (14, cs.length)) (o - 1) else (x :: ws, cs, o)
def yTp (ws : yL) : Nat := match ws with
  | [] => 99
  | x :: _ => x.1
def yHv (ws : yL) : Nat := match ws with
  | [] => 0
  | x :: _ => x.2
def yIc (ws : yL) : Bool := Nat.ble 10 (yTp ws) && Nat.ble (yTp ws) 12
abbrev yK : Type := Bool → Nat → Nat → yL → yL → yR
def yRu (sg : Nat → Nat) (K : yK) (p : Nat) (ws cs : yL) (o : Nat) : yR :=
  if sg p = 41 then (if yTp ws = 15 then K false (p + 1) (o - 1) ws.tail cs else Sum.inl (1, p))
  else if sg p = 58 then (if yTp ws = 16 then K true (p + 1) o ((17, cs.length) :: ws.tail) ((cs ++ [(14, 0)]).set (yHv ws) (13, cs.length + 1)) else Sum.inl (1, p))
  else if ws.length = 0 then Sum.inr (p, cs) else Sum.inl (1, p)
def yRt (sg : Nat → Nat) (K : yK) (p o : Nat) (ws cs : yL) : yR :=
  match yCm (sg p) with
  | some op => if yIc ws = true then Sum.inl (1, p) else K true (p + 1) o ((op, 0) :: ws) cs
  | none =>
    if sg p = 63 then (if yIc ws = true then (if o = 6 then Sum.inl (5, p) else K true (p + 1) (o + 1) ((16, cs.length + 1) :: ws.tail) (cs ++ [(yTp ws, 0), (13, 0)])) else Sum.inl (1, p))
    else if yIc ws = true then Sum.inl (1, p)
    else yRu sg K p (yLn ws cs o).1 (yLn ws cs o).2.1 (yLn ws cs o).2.2
def yRa (sg : Nat → Nat) (K : yK) (p o : Nat) (ws cs : yL) : yR :=
  if sg p = 40 then (if o = 6 then Sum.inl (5, p) else K true (p + 1) (o + 1) ((15, 0) :: ws) cs)
  else if yDg (sg p) = true then (match yDs sg 6 p 0 with
    | Sum.inl q => Sum.inl (2, q)
    | Sum.inr r => K false r.1 o ws (cs ++ [(0, r.2)]))
  else if yLt (sg p) = true then K false (p + 1) o ws (cs ++ [(1, sg p - 65)])
  else (match yFc (sg p) with
    | none => Sum.inl (1, p)
    | some w => K false (p + 1) o ws (cs ++ [(2, w)]))
def yRb (sg : Nat → Nat) (K : yK) (p o : Nat) (ws cs : yL) : yR :=
  match yOp (sg p) with
  | some op => K true (p + 1) o ((op, 0) :: (yCl (yBd op) ws cs).1) (yCl (yBd op) ws cs).2
  | none => yRt sg K p o (yCl 1 ws cs).1 (yCl 1 ws cs).2
def yRs (sg : Nat → Nat) (K : yK) : yK := fun b p o ws cs => if b = true then yRa sg K p o ws cs else yRb sg K p o ws cs
def yRm (sg : Nat → Nat) : Nat → yK
  | 0 => fun _ _ _ _ _ => Sum.inl (0, 0)
  | k + 1 => yRs sg (yRm sg k)
def yRr (sg : Nat → Nat) (n : Nat) : yK := fun b p o ws cs => yRm sg (n + 1 - p) b p o ws cs
section
variable {sg : Nat → Nat} {n : Nat}
theorem yOp_999 : yOp 999 = none := by decide
theorem yCm_999 : yCm 999 = none := by decide
theorem y_lt (hE : ∀ p, n ≤ p → sg p = 999) {p : Nat} (h : sg p ≠ 999) : p < n := by
  by_cases q : p < n
  · exact q
  · exact absurd (hE p (by omega)) h
theorem y_ltop (hE : ∀ p, n ≤ p → sg p = 999) {p op : Nat} (h : yOp (sg p) = some op) : p < n := y_lt hE fun q => by rw [q] at h; cases h
theorem y_ltcm (hE : ∀ p, n ≤ p → sg p = 999) {p op : Nat} (h : yCm (sg p) = some op) : p < n := y_lt hE fun q => by rw [q] at h; cases h
theorem yDg_iff {c : Nat} : yDg c = true ↔ 48 ≤ c ∧ c ≤ 57 := by
  unfold yDg
  rw [Bool.and_eq_true, Nat.ble_eq, Nat.ble_eq]
theorem yLt_iff {c : Nat} : yLt c = true ↔ 65 ≤ c ∧ c ≤ 90 := by
  unfold yLt
  rw [Bool.and_eq_true, Nat.ble_eq, Nat.ble_eq]
theorem yDs_r (hE : ∀ p, n ≤ p → sg p = 999) : ∀ (k p v m : Nat) (r : Nat × Nat), p ≤ n → v < 10 ^ m → yDs sg k p v = Sum.inr r → p ≤ r.1 ∧ r.1 ≤ n ∧ r.2 < 10 ^ (m + k) := by
  intro k
  induction k with
  | zero =>
    intro p v m r hp hv h
    unfold yDs at h
    by_cases q : yDg (sg p) = true
    · rw [if_pos q] at h; cases h
    · rw [if_neg q] at h; cases h; exact ⟨Nat.le_refl _, hp, hv⟩
  | succ k ih =>
    intro p v m r hp hv h
    unfold yDs at h
    by_cases q : yDg (sg p) = true
    · rw [if_pos q] at h
      have hd := yDg_iff.mp q
      have hl : p < n := y_lt hE (by omega)
      have e : 10 ^ (m + 1) = 10 ^ m * 10 := Nat.pow_succ 10 m
      obtain ⟨a1, a2, a3⟩ := ih (p + 1) (10 * v + (sg p - 48)) (m + 1) r (by omega) (by omega) h
      refine ⟨by omega, a2, ?_⟩
      rwa [show m + 1 + k = m + (k + 1) by omega] at a3
    · rw [if_neg q] at h
      cases h
      refine ⟨Nat.le_refl _, hp, Nat.lt_of_lt_of_le hv (Nat.pow_le_pow_right (by omega) (by omega))⟩
theorem yDs_6 (hE : ∀ p, n ≤ p → sg p = 999) {p : Nat} {r : Nat × Nat} (hp : p ≤ n) (hd : yDg (sg p) = true) (h : yDs sg 6 p 0 = Sum.inr r) : p < r.1 ∧ r.1 ≤ n ∧ r.2 < 1000000 := by
  have hd' := yDg_iff.mp hd
  have hl : p < n := y_lt hE (by omega)
  unfold yDs at h
  rw [if_pos hd] at h
  obtain ⟨a1, a2, a3⟩ := yDs_r hE 5 (p + 1) _ 1 r (by omega) (by omega) h
  exact ⟨by omega, a2, a3⟩
theorem yRu_c {K K' : yK} {p : Nat} (h : sg p ≠ 999 → ∀ b p' o ws cs, p < p' → p' ≤ n → K b p' o ws cs = K' b p' o ws cs) (hl : sg p ≠ 999 → p < n) (ws cs : yL) (o : Nat) : yRu sg K p ws cs o = yRu sg K' p ws cs o := by
  unfold yRu
  by_cases q1 : sg p = 41
  · rw [if_pos q1, if_pos q1, h (by omega) _ _ _ _ _ (by omega) (hl (by omega))]
  · rw [if_neg q1, if_neg q1]
    by_cases q2 : sg p = 58
    · rw [if_pos q2, if_pos q2, h (by omega) _ _ _ _ _ (by omega) (hl (by omega))]
    · rw [if_neg q2, if_neg q2]
theorem yRt_c {K K' : yK} {p : Nat} (h : sg p ≠ 999 → ∀ b p' o ws cs, p < p' → p' ≤ n → K b p' o ws cs = K' b p' o ws cs) (hl : sg p ≠ 999 → p < n) (o : Nat) (ws cs : yL) : yRt sg K p o ws cs = yRt sg K' p o ws cs := by
  unfold yRt
  cases hc : yCm (sg p) with
  | some op =>
    have q : sg p ≠ 999 := fun q => by rw [q] at hc; cases hc
    show (if yIc ws = true then _ else _) = (if yIc ws = true then _ else _)
    rw [h q _ _ _ _ _ (by omega) (hl q)]
  | none =>
    show (if sg p = 63 then _ else _) = (if sg p = 63 then _ else _)
    by_cases q1 : sg p = 63
    · rw [if_pos q1, if_pos q1, h (by omega) _ _ _ _ _ (by omega) (hl (by omega))]
    · rw [if_neg q1, if_neg q1, yRu_c h hl]
theorem yRb_c {K K' : yK} {p : Nat} (h : sg p ≠ 999 → ∀ b p' o ws cs, p < p' → p' ≤ n → K b p' o ws cs = K' b p' o ws cs) (hl : sg p ≠ 999 → p < n) (o : Nat) (ws cs : yL) : yRb sg K p o ws cs = yRb sg K' p o ws cs := by
  unfold yRb
  cases hc : yOp (sg p) with
  | some op =>
    have q : sg p ≠ 999 := fun q => by rw [q] at hc; cases hc
    exact h q _ _ _ _ _ (by omega) (hl q)
  | none => exact yRt_c h hl _ _ _
theorem yRa_c (hE : ∀ p, n ≤ p → sg p = 999) {K K' : yK} {p : Nat} (hp : p ≤ n) (h : sg p ≠ 999 → ∀ b p' o ws cs, p < p' → p' ≤ n → K b p' o ws cs = K' b p' o ws cs) (o : Nat) (ws cs : yL) : yRa sg K p o ws cs = yRa sg K' p o ws cs := by
  have hl : sg p ≠ 999 → p < n := y_lt hE
  unfold yRa
  by_cases q1 : sg p = 40
  · rw [if_pos q1, if_pos q1, h (by omega) _ _ _ _ _ (by omega) (hl (by omega))]
  · rw [if_neg q1, if_neg q1]
    by_cases q2 : yDg (sg p) = true
    · rw [if_pos q2, if_pos q2]
      have := yDg_iff.mp q2
      cases hd : yDs sg 6 p 0 with
      | inl q => rfl
      | inr r =>
        obtain ⟨a1, a2, -⟩ := yDs_6 hE hp q2 hd
        exact h (by omega) _ _ _ _ _ a1 a2
    · rw [if_neg q2, if_neg q2]
      by_cases q3 : yLt (sg p) = true
      · have := yLt_iff.mp q3
        rw [if_pos q3, if_pos q3, h (by omega) _ _ _ _ _ (by omega) (hl (by omega))]
      · rw [if_neg q3, if_neg q3]
        cases hf : yFc (sg p) with
        | none => rfl
        | some w =>
          have q : sg p ≠ 999 := fun q => by rw [q] at hf; cases hf
          exact h q _ _ _ _ _ (by omega) (hl q)
theorem yRs_c (hE : ∀ p, n ≤ p → sg p = 999) {K K' : yK} {p : Nat} (hp : p ≤ n) (h : sg p ≠ 999 → ∀ b p' o ws cs, p < p' → p' ≤ n → K b p' o ws cs = K' b p' o ws cs) (b : Bool) (o : Nat) (ws cs : yL) : yRs sg K b p o ws cs = yRs sg K' b p o ws cs := by
  cases b
  · exact yRb_c h (y_lt hE) o ws cs
  · exact yRa_c hE hp h o ws cs
theorem yRm_k (hE : ∀ p, n ≤ p → sg p = 999) : ∀ (k k' p : Nat), p ≤ n → n - p < k → n - p < k' → ∀ b o ws cs, yRm sg k b p o ws cs = yRm sg k' b p o ws cs := by
  intro k
  induction k with
  | zero => intro k' p _ h; omega
  | succ k ih =>
    intro k' p hp h1 h2 b o ws cs
    cases k' with
    | zero => omega
    | succ k' =>
      show yRs sg (yRm sg k) b p o ws cs = yRs sg (yRm sg k') b p o ws cs
      refine yRs_c hE hp (fun _ b p' o ws cs a1 a2 => ?_) b o ws cs
      exact ih k' p' a2 (by omega) (by omega) b o ws cs
theorem yRr_e (hE : ∀ p, n ≤ p → sg p = 999) {p : Nat} (hp : p ≤ n) (b : Bool) (o : Nat) (ws cs : yL) : yRr sg n b p o ws cs = yRs sg (yRr sg n) b p o ws cs := by
  show yRm sg (n + 1 - p) b p o ws cs = _
  rw [show n + 1 - p = (n - p) + 1 by omega]
  show yRs sg (yRm sg (n - p)) b p o ws cs = _
  refine yRs_c hE hp (fun q b p' o ws cs a1 a2 => ?_) b o ws cs
  have := y_lt hE q
  exact yRm_k hE (n - p) (n + 1 - p') p' a2 (by omega) (by omega) b o ws cs
theorem yRr_a (hE : ∀ p, n ≤ p → sg p = 999) {p : Nat} (hp : p ≤ n) (o : Nat) (ws cs : yL) : yRr sg n true p o ws cs = yRa sg (yRr sg n) p o ws cs := yRr_e hE hp true o ws cs
theorem yRr_b (hE : ∀ p, n ≤ p → sg p = 999) {p : Nat} (hp : p ≤ n) (o : Nat) (ws cs : yL) : yRr sg n false p o ws cs = yRb sg (yRr sg n) p o ws cs := yRr_e hE hp false o ws cs
end
theorem yBd_3 (op : Nat) : yBd op ≤ 3 := by
  unfold yBd
  by_cases h : 8 ≤ op
  · rw [if_pos h]; omega
  · rw [if_neg h]
    by_cases h2 : 5 ≤ op
    · rw [if_pos h2]; omega
    · rw [if_neg h2]; omega
theorem yOp_r {c op : Nat} (h : yOp c = some op) : 3 ≤ op ∧ op ≤ 9 := by
  unfold yOp at h
  repeat' (split at h)
  all_goals first
    | (cases h; omega)
    | cases h
theorem yCm_r {c op : Nat} (h : yCm c = some op) : 10 ≤ op ∧ op ≤ 12 := by
  unfold yCm at h
  repeat' (split at h)
  all_goals first
    | (cases h; omega)
    | cases h
theorem yCl_le {l m : Nat} (h : l ≤ m) : ∀ ws cs, yCl l (yCl m ws cs).1 (yCl m ws cs).2 = yCl l ws cs
  | [], cs => rfl
  | x :: ws, cs => by
    by_cases q : 3 ≤ x.1 ∧ x.1 ≤ 9 ∧ m ≤ yBd x.1
    · have e : yCl m (x :: ws) cs = yCl m ws (cs ++ [(x.1, 0)]) := if_pos q
      have e2 : yCl l (x :: ws) cs = yCl l ws (cs ++ [(x.1, 0)]) := if_pos ⟨q.1, q.2.1, by omega⟩
      rw [e, e2]
      exact yCl_le h ws _
    · have e : yCl m (x :: ws) cs = (x :: ws, cs) := if_neg q
      rw [e]
theorem yCl_4 : ∀ ws cs, yCl 4 ws cs = (ws, cs)
  | [], _ => rfl
  | x :: _, _ => if_neg fun q => by have := yBd_3 x.1; omega
/-- nothing that binds as strongly is waiting -/
def yTL (l : Nat) (ws : yL) : Prop := ∀ cs, yCl l ws cs = (ws, cs)
theorem yTL_op {l op : Nat} (h : yBd op < l) (v : Nat) (ws : yL) : yTL l ((op, v) :: ws) := fun _ => if_neg fun q => by have : l ≤ yBd op := q.2.2; omega
theorem yTL_hi {l op : Nat} (h : 9 < op) (v : Nat) (ws : yL) : yTL l ((op, v) :: ws) := fun _ => if_neg fun q => by have : op ≤ 9 := q.2.1; omega
theorem yTL_nil {l : Nat} : yTL l [] := fun _ => rfl
theorem yTL_up {l m : Nat} (h : l ≤ m) {ws : yL} (t : yTL l ws) : yTL m ws := fun cs => by
  cases ws with
  | nil => rfl
  | cons x ws =>
    refine if_neg fun q => ?_
    have e : yCl l (x :: ws) cs = yCl l ws (cs ++ [(x.1, 0)]) := if_pos ⟨q.1, q.2.1, by have := q.2.2; omega⟩
    have e2 := t cs
    rw [e] at e2
    have k : ∀ ws cs, (yCl l ws cs).1.length ≤ ws.length := by
      intro ws
      induction ws with
      | nil => intro cs; exact Nat.le_refl _
      | cons y ws ih =>
        intro cs
        unfold yCl
        split
        · exact Nat.le_trans (ih _) (by simp)
        · exact Nat.le_refl _
    have := k ws (cs ++ [(x.1, 0)])
    rw [e2, List.length_cons] at this
    omega
