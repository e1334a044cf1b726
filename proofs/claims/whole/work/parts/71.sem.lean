/-! what steps and codes come to -/
def yJo (c : Nat) (x y : Int64) : Int64 := if c = 37 then (if y = 0 then 0 else x - x / y * y) else if c = 42 then x * y else if c = 43 then x + y else if c = 45 then x - y else if c = 47 then (if y = 0 then 0 else x / y) else if c = 95 then lmn x y else lmx x y
def ySo (c : Nat) (x y : Int64) : Bool := if c = 60 then decide (x < y) else if c = 62 then decide (y < x) else decide (x = y)
def yE1 (F : FA) (K : LE) (t : Nat × Nat) (k : List Int64) : Option (List Int64) :=
  if t.1 = 48 then some (Int32.toInt64 (nI t.2) :: k)
  else if t.1 = 65 then some (K t.2 :: k)
  else if t.1 = 102 then some (F t.2 :: k)
  else if yCm t.1 = none then (match k with
    | y :: x :: k => some (yJo t.1 x y :: k)
    | _ => none)
  else (match k with
    | b :: a :: y :: x :: k => some ((if ySo t.1 x y = true then a else b) :: k)
    | _ => none)
def yEv (F : FA) (K : LE) : yL → List Int64 → Option (List Int64)
  | [], k => some k
  | t :: s, k => match yE1 F K t k with
    | none => none
    | some k => yEv F K s k
def yRk (op : Nat) (x y : Int64) : Int64 := if op = 3 then x + y else if op = 4 then x - y else if op = 5 then x * y else if op = 6 then (if y = 0 then 0 else x / y) else if op = 7 then (if y = 0 then 0 else x - x / y * y) else if op = 8 then (if x < y then x else y) else if op = 9 then (if y < x then x else y) else if op = 10 then (if x < y then 1 else 0) else if op = 11 then (if y < x then 1 else 0) else (if x = y then 1 else 0)
def yRx (F : FA) (K : LE) (L : yL) (e : Nat) : Nat → Nat → List Int64 → Option (List Int64)
  | 0, _, _ => none
  | fu + 1, pc, k => if pc < e then
      (match L[pc]? with
      | none => none
      | some t =>
        if t.1 = 0 then yRx F K L e fu (pc + 1) (Int32.toInt64 (nI t.2) :: k)
        else if t.1 = 1 then yRx F K L e fu (pc + 1) (K t.2 :: k)
        else if t.1 = 2 then yRx F K L e fu (pc + 1) (F t.2 :: k)
        else if t.1 = 14 then yRx F K L e fu t.2 k
        else if t.1 = 13 then (match k with
          | x :: k => if x = 0 then yRx F K L e fu t.2 k else yRx F K L e fu (pc + 1) k
          | [] => none)
        else (match k with
          | y :: x :: k => yRx F K L e fu (pc + 1) (yRk t.1 x y :: k)
          | _ => none))
    else some k
theorem yEv_app (F : FA) (K : LE) : ∀ (s t : yL) (k : List Int64), yEv F K (s ++ t) k = match yEv F K s k with
    | none => none
    | some k => yEv F K t k
  | [], t, k => rfl
  | x :: s, t, k => by
    show (match yE1 F K x k with
      | none => none
      | some k => yEv F K (s ++ t) k) = match (match yE1 F K x k with
      | none => none
      | some k => yEv F K s k) with
      | none => none
      | some k => yEv F K t k
    cases yE1 F K x k with
    | none => rfl
    | some k => exact yEv_app F K s t k
theorem yEv_app' {F : FA} {K : LE} {s t : yL} {k k' : List Int64} (h : yEv F K s k = some k') : yEv F K (s ++ t) k = yEv F K t k' := by
  rw [yEv_app, h]
/-- a piece of a row -/
def ySg (L : yL) (b : Nat) (c : yL) : Prop := ∀ i, i < c.length → L[b + i]? = c[i]?
theorem ySg_l {L : yL} {b : Nat} {c d : yL} (h : ySg L b (c ++ d)) : ySg L b c := fun i hi => by
  rw [h i (by rw [List.length_append]; omega), List.getElem?_append_left hi]
theorem ySg_r {L : yL} {b : Nat} {c d : yL} (h : ySg L b (c ++ d)) : ySg L (b + c.length) d := fun i hi => by
  rw [show b + c.length + i = b + (c.length + i) by omega, h _ (by rw [List.length_append]; omega), List.getElem?_append_right (by omega)]
  congr 1
  omega
theorem ySg_h {L : yL} {b : Nat} {t : Nat × Nat} {d : yL} (h : ySg L b (t :: d)) : L[b]? = some t := h 0 (by simp)
/-- steps and codes that come to the same -/
def yVa (b : Nat) (code s : yL) : Prop :=
  ∃ v : FA → LE → Int64, (∀ F K k, yEv F K s k = some (v F K :: k)) ∧
    ∀ (L : yL) (e : Nat), b + code.length ≤ e → ySg L b code → ∀ F K k fu, ∃ fu', fu ≤ fu' ∧ yRx F K L e (fu + code.length) b k = yRx F K L e fu' (b + code.length) (v F K :: k)
def yOc (e : Nat) (t : Nat × Nat) : Prop := (t.1 = 0 ∧ t.2 < 1000000) ∨ (t.1 = 1 ∧ t.2 < 26) ∨ (t.1 = 2 ∧ t.2 < 10) ∨ (3 ≤ t.1 ∧ t.1 ≤ 12 ∧ t.2 = 0) ∨ (13 ≤ t.1 ∧ t.1 ≤ 14 ∧ t.2 ≤ e)
def yOs (t : Nat × Nat) : Prop := (t.1 = 48 ∧ t.2 < 1000000) ∨ (t.1 = 65 ∧ t.2 < 26) ∨ (t.1 = 102 ∧ t.2 < 10) ∨ (t.2 = 0 ∧ ((∃ op, yOp t.1 = some op) ∨ ∃ op, yCm t.1 = some op))
def yCp (b : Nat) (code s : yL) : Prop := yVa b code s ∧ (∀ t ∈ code, yOc (b + code.length) t) ∧ (∀ t ∈ s, yOs t) ∧ ∀ x, ((1, x) ∈ code ↔ (65, x) ∈ s)
theorem yOc_up {e e' : Nat} {t : Nat × Nat} (h : yOc e t) (q : e ≤ e') : yOc e' t := by
  unfold yOc at *
  omega
theorem yRx_s {F : FA} {K : LE} {L : yL} {e fu pc : Nat} {k : List Int64} {t : Nat × Nat} (h : pc < e) (ht : L[pc]? = some t) : yRx F K L e (fu + 1) pc k = if t.1 = 0 then yRx F K L e fu (pc + 1) (Int32.toInt64 (nI t.2) :: k)
        else if t.1 = 1 then yRx F K L e fu (pc + 1) (K t.2 :: k)
        else if t.1 = 2 then yRx F K L e fu (pc + 1) (F t.2 :: k)
        else if t.1 = 14 then yRx F K L e fu t.2 k
        else if t.1 = 13 then (match k with
          | x :: k => if x = 0 then yRx F K L e fu t.2 k else yRx F K L e fu (pc + 1) k
          | [] => none)
        else (match k with
          | y :: x :: k => yRx F K L e fu (pc + 1) (yRk t.1 x y :: k)
          | _ => none) := by
  show (if pc < e then _ else _) = _
  rw [if_pos h, ht]
theorem yVa_1 {b c v : Nat} {s : Nat × Nat} {w : FA → LE → Int64} (h1 : ∀ F K k, yE1 F K s k = some (w F K :: k)) (h2 : ∀ F K (L : yL) e fu k, b < e → L[b]? = some (c, v) → yRx F K L e (fu + 1) b k = yRx F K L e fu (b + 1) (w F K :: k)) : yVa b [(c, v)] [s] := by
  refine ⟨w, fun F K k => ?_, fun L e he hs F K k fu => ⟨fu, Nat.le_refl _, ?_⟩⟩
  · show (match yE1 F K s k with
      | none => none
      | some k => yEv F K [] k) = _
    rw [h1]
    rfl
  · exact h2 F K L e fu k (by simp at he; omega) (ySg_h hs)
theorem yCp_num (b v : Nat) (hv : v < 1000000) : yCp b [(0, v)] [(48, v)] := by
  refine ⟨yVa_1 (w := fun _ _ => Int32.toInt64 (nI v)) (fun F K k => if_pos rfl) (fun F K L e fu k h ht => by rw [yRx_s h ht, if_pos rfl]), fun t ht => ?_, fun t ht => ?_, fun x => ?_⟩
  · obtain rfl := List.mem_singleton.mp ht
    exact Or.inl ⟨rfl, hv⟩
  · obtain rfl := List.mem_singleton.mp ht
    exact Or.inl ⟨rfl, hv⟩
  · simp
theorem yCp_let (b x : Nat) (hx : x < 26) : yCp b [(1, x)] [(65, x)] := by
  refine ⟨yVa_1 (w := fun _ K => K x) (fun F K k => ?_) (fun F K L e fu k h ht => by rw [yRx_s h ht, if_neg (show ¬ (1 = 0) by decide), if_pos rfl]), fun t ht => ?_, fun t ht => ?_, fun y => ?_⟩
  · unfold yE1
    rw [if_neg (show ¬ (65 = 48) by decide), if_pos rfl]
  · obtain rfl := List.mem_singleton.mp ht
    exact Or.inr (Or.inl ⟨rfl, hx⟩)
  · obtain rfl := List.mem_singleton.mp ht
    exact Or.inr (Or.inl ⟨rfl, hx⟩)
  · simp
theorem yCp_fac (b w : Nat) (hw : w < 10) : yCp b [(2, w)] [(102, w)] := by
  refine ⟨yVa_1 (w := fun F _ => F w) (fun F K k => ?_) (fun F K L e fu k h ht => by rw [yRx_s h ht, if_neg (show ¬ (2 = 0) by decide), if_neg (show ¬ (2 = 1) by decide), if_pos rfl]), fun t ht => ?_, fun t ht => ?_, fun y => ?_⟩
  · unfold yE1
    rw [if_neg (show ¬ (102 = 48) by decide), if_neg (show ¬ (102 = 65) by decide), if_pos rfl]
  · obtain rfl := List.mem_singleton.mp ht
    exact Or.inr (Or.inr (Or.inl ⟨rfl, hw⟩))
  · obtain rfl := List.mem_singleton.mp ht
    exact Or.inr (Or.inr (Or.inl ⟨rfl, hw⟩))
  · simp
theorem yOp_c {c op : Nat} (h : yOp c = some op) : (c = 43 ∧ op = 3) ∨ (c = 45 ∧ op = 4) ∨ (c = 42 ∧ op = 5) ∨ (c = 47 ∧ op = 6) ∨ (c = 37 ∧ op = 7) ∨ (c = 95 ∧ op = 8) ∨ (c = 94 ∧ op = 9) := by
  unfold yOp at h
  repeat' (split at h)
  all_goals first
    | (cases h; omega)
    | cases h
theorem yCm_c {c op : Nat} (h : yCm c = some op) : (c = 60 ∧ op = 10) ∨ (c = 62 ∧ op = 11) ∨ (c = 61 ∧ op = 12) := by
  unfold yCm at h
  repeat' (split at h)
  all_goals first
    | (cases h; omega)
    | cases h
theorem y_mn (x y : Int64) : (if x < y then x else y) = lmn x y := by
  show _ = if y < x then y else x
  by_cases h : x < y
  · rw [if_pos h, if_neg (fun q => by rw [Int64.lt_iff_toInt_lt] at h q; omega)]
  · rw [if_neg h]
    by_cases h2 : y < x
    · rw [if_pos h2]
    · rw [if_neg h2]
      apply Int64.toInt_inj.mp
      rw [Int64.lt_iff_toInt_lt] at h h2
      omega
theorem y_mx (x y : Int64) : (if y < x then x else y) = lmx x y := rfl
theorem y_op {c op : Nat} (h : yOp c = some op) (x y : Int64) : yRk op x y = yJo c x y := by
  rcases yOp_c h with ⟨rfl, rfl⟩ | ⟨rfl, rfl⟩ | ⟨rfl, rfl⟩ | ⟨rfl, rfl⟩ | ⟨rfl, rfl⟩ | ⟨rfl, rfl⟩ | ⟨rfl, rfl⟩
  · rfl
  · rfl
  · rfl
  · rfl
  · rfl
  · exact y_mn x y
  · exact y_mx x y
theorem y_cm {c op : Nat} (h : yCm c = some op) (x y : Int64) : yRk op x y = if ySo c x y = true then 1 else 0 := by
  rcases yCm_c h with ⟨rfl, rfl⟩ | ⟨rfl, rfl⟩ | ⟨rfl, rfl⟩
  · show (if x < y then (1 : Int64) else 0) = if decide (x < y) = true then 1 else 0
    by_cases q : x < y
    · rw [if_pos q, if_pos (decide_eq_true q)]
    · rw [if_neg q, if_neg (by simpa using q)]
  · show (if y < x then (1 : Int64) else 0) = if decide (y < x) = true then 1 else 0
    by_cases q : y < x
    · rw [if_pos q, if_pos (decide_eq_true q)]
    · rw [if_neg q, if_neg (by simpa using q)]
  · show (if x = y then (1 : Int64) else 0) = if decide (x = y) = true then 1 else 0
    by_cases q : x = y
    · rw [if_pos q, if_pos (decide_eq_true q)]
    · rw [if_neg q, if_neg (by simpa using q)]
theorem yE1_op {c op : Nat} (h : yOp c = some op) (F : FA) (K : LE) (x y : Int64) (k : List Int64) : yE1 F K (c, 0) (y :: x :: k) = some (yJo c x y :: k) := by
  unfold yE1
  rcases yOp_c h with ⟨rfl, rfl⟩ | ⟨rfl, rfl⟩ | ⟨rfl, rfl⟩ | ⟨rfl, rfl⟩ | ⟨rfl, rfl⟩ | ⟨rfl, rfl⟩ | ⟨rfl, rfl⟩ <;> rfl
theorem yE1_cm {c op : Nat} (h : yCm c = some op) (F : FA) (K : LE) (a b x y : Int64) (k : List Int64) : yE1 F K (c, 0) (b :: a :: y :: x :: k) = some ((if ySo c x y = true then a else b) :: k) := by
  unfold yE1
  rcases yCm_c h with ⟨rfl, rfl⟩ | ⟨rfl, rfl⟩ | ⟨rfl, rfl⟩ <;> rfl
theorem yEv_1 (F : FA) (K : LE) (t : Nat × Nat) (k : List Int64) : yEv F K [t] k = yE1 F K t k := by
  show (match yE1 F K t k with
    | none => none
    | some k => yEv F K [] k) = _
  cases yE1 F K t k <;> rfl
theorem yRx_op {F : FA} {K : LE} {L : yL} {e fu pc op v : Nat} {k : List Int64} {x y : Int64} (h : pc < e) (ht : L[pc]? = some (op, v)) (ho : 3 ≤ op ∧ op ≤ 12) : yRx F K L e (fu + 1) pc (y :: x :: k) = yRx F K L e fu (pc + 1) (yRk op x y :: k) := by
  rw [yRx_s h ht, if_neg (show ¬ op = 0 by omega), if_neg (show ¬ op = 1 by omega), if_neg (show ¬ op = 2 by omega), if_neg (show ¬ op = 14 by omega), if_neg (show ¬ op = 13 by omega)]
theorem yCp_bin {b c op : Nat} {c1 c2 s1 s2 : yL} (ho : yOp c = some op) (h1 : yCp b c1 s1) (h2 : yCp (b + c1.length) c2 s2) : yCp b (c1 ++ c2 ++ [(op, 0)]) (s1 ++ s2 ++ [(c, 0)]) := by
  obtain ⟨⟨v1, a1, a2⟩, a3, a4, a5⟩ := h1
  obtain ⟨⟨v2, b1, b2⟩, b3, b4, b5⟩ := h2
  have ho' := yOp_r ho
  have hc := yOp_c ho
  refine ⟨⟨fun F K => yJo c (v1 F K) (v2 F K), fun F K k => ?_, fun L e he hs F K k fu => ?_⟩, fun t ht => ?_, fun t ht => ?_, fun x => ?_⟩
  · rw [List.append_assoc, yEv_app' (a1 F K k), yEv_app' (b1 F K _), yEv_1, yE1_op ho]
  · simp only [List.length_append, List.length_singleton] at he ⊢
    have g1 := ySg_l (ySg_l hs)
    have g2 := ySg_r (ySg_l hs)
    have g3 := ySg_h (ySg_r hs)
    rw [List.length_append] at g3
    obtain ⟨f1, q1, r1⟩ := a2 L e (by omega) g1 F K k (fu + 1 + c2.length)
    obtain ⟨f2, q2, r2⟩ := b2 L e (by omega) g2 F K (v1 F K :: k) (f1 - c2.length)
    refine ⟨f2 - 1, by omega, ?_⟩
    rw [show fu + (c1.length + c2.length + 1) = fu + 1 + c2.length + c1.length by omega, r1, show f1 = f1 - c2.length + c2.length by omega, r2, show f2 = f2 - 1 + 1 by omega, yRx_op (by omega) (by rw [Nat.add_assoc]; exact g3) (by omega), y_op ho]
    congr 1
    omega
  · simp only [List.length_append, List.length_singleton]
    rcases List.mem_append.mp ht with ht | ht
    · rcases List.mem_append.mp ht with ht | ht
      · exact yOc_up (a3 t ht) (by omega)
      · exact yOc_up (b3 t ht) (by omega)
    · obtain rfl := List.mem_singleton.mp ht
      exact Or.inr (Or.inr (Or.inr (Or.inl ⟨ho'.1, by omega, rfl⟩)))
  · rcases List.mem_append.mp ht with ht | ht
    · rcases List.mem_append.mp ht with ht | ht
      · exact a4 t ht
      · exact b4 t ht
    · obtain rfl := List.mem_singleton.mp ht
      exact Or.inr (Or.inr (Or.inr ⟨rfl, Or.inl ⟨op, ho⟩⟩))
  · simp only [List.mem_append, List.mem_singleton, a5, b5, Prod.mk.injEq]
    constructor
    · rintro ((h | h) | h)
      · exact Or.inl (Or.inl h)
      · exact Or.inl (Or.inr h)
      · omega
    · rintro ((h | h) | h)
      · exact Or.inl (Or.inl h)
      · exact Or.inl (Or.inr h)
      · omega
theorem yCp_if {b c op k3 k4 : Nat} {c1 c2 c3 c4 s1 s2 s3 s4 : yL} (ho : yCm c = some op) (h1 : yCp b c1 s1) (h2 : yCp (b + c1.length) c2 s2) (e3 : k3 = b + c1.length + c2.length + 2 + c3.length + 1) (h3 : yCp (b + c1.length + c2.length + 2) c3 s3) (h4 : yCp k3 c4 s4) (e4 : k4 = k3 + c4.length) :
    yCp b (c1 ++ c2 ++ [(op, 0), (13, k3)] ++ c3 ++ [(14, k4)] ++ c4) (s1 ++ s2 ++ s3 ++ s4 ++ [(c, 0)]) := by
  obtain ⟨⟨v1, a1, a2⟩, a3, a4, a5⟩ := h1
  obtain ⟨⟨v2, b1, b2⟩, b3, b4, b5⟩ := h2
  obtain ⟨⟨v3, d1, d2⟩, d3, d4, d5⟩ := h3
  obtain ⟨⟨v4, g1, g2⟩, g3, g4, g5⟩ := h4
  have ho' := yCm_r ho
  refine ⟨⟨fun F K => if ySo c (v1 F K) (v2 F K) = true then v3 F K else v4 F K, fun F K k => ?_, fun L e he hs F K k fu => ?_⟩, fun t ht => ?_, fun t ht => ?_, fun x => ?_⟩
  · rw [List.append_assoc, List.append_assoc, List.append_assoc, yEv_app' (a1 F K k), yEv_app' (b1 F K _), yEv_app' (d1 F K _), yEv_app' (g1 F K _), yEv_1, yE1_cm ho]
  · simp only [List.length_append, List.length_cons, List.length_nil] at he ⊢
    have p1 := ySg_l (ySg_l (ySg_l (ySg_l (ySg_l hs))))
    have p2 := ySg_r (ySg_l (ySg_l (ySg_l (ySg_l hs))))
    have p3 := ySg_r (ySg_l (ySg_l (ySg_l hs)))
    have p4 := ySg_r (ySg_l (ySg_l hs))
    have p5 := ySg_h (ySg_r (ySg_l hs))
    have p6 := ySg_r hs
    simp only [List.length_append, List.length_cons, List.length_nil] at p3 p4 p5 p6
    have p3a := ySg_h p3
    have p3b : L[b + (c1.length + c2.length) + 1]? = some (13, k3) := p3 1 (by simp)
    obtain ⟨f1, q1, r1⟩ := a2 L e (by omega) p1 F K k (fu + c4.length + 1 + c3.length + 2 + c2.length)
    obtain ⟨f2, q2, r2⟩ := b2 L e (by omega) p2 F K (v1 F K :: k) (f1 - c2.length)
    have st2 : yRx F K L e (fu + c4.length + 1 + c3.length + 2 + c2.length + c1.length) b k = yRx F K L e (f2 - 1) (b + c1.length + c2.length + 1) ((if ySo c (v1 F K) (v2 F K) = true then 1 else 0) :: k) := by
      rw [r1, show f1 = f1 - c2.length + c2.length by omega, r2, show f2 = f2 - 1 + 1 by omega, yRx_op (by omega) (by rw [Nat.add_assoc b]; exact p3a) (by omega), y_cm ho, show f2 - 1 + 1 - 1 = f2 - 1 by omega]
    have st3 : yRx F K L e (f2 - 1) (b + c1.length + c2.length + 1) ((if ySo c (v1 F K) (v2 F K) = true then 1 else 0) :: k) = if ySo c (v1 F K) (v2 F K) = true then yRx F K L e (f2 - 2) (b + c1.length + c2.length + 2) k else yRx F K L e (f2 - 2) k3 k := by
      rw [show f2 - 1 = f2 - 2 + 1 by omega, yRx_s (t := (13, k3)) (by omega) (by rw [Nat.add_assoc b]; exact p3b), if_neg (show ¬ (13 = 0) by decide), if_neg (show ¬ (13 = 1) by decide), if_neg (show ¬ (13 = 2) by decide), if_neg (show ¬ (13 = 14) by decide), if_pos rfl]
      by_cases q : ySo c (v1 F K) (v2 F K) = true
      · rw [if_pos q, if_pos q]
        exact if_neg (by decide)
      · rw [if_neg q, if_neg q]
        exact if_pos rfl
    rw [show fu + (c1.length + c2.length + (0 + 1 + 1) + c3.length + (0 + 1) + c4.length) = fu + c4.length + 1 + c3.length + 2 + c2.length + c1.length by omega, st2, st3]
    have fin : ∀ fu, ∃ fu', fu ≤ fu' ∧ (if ySo c (v1 F K) (v2 F K) = true then yRx F K L e (fu + c4.length + 1 + c3.length) (b + c1.length + c2.length + 2) k else yRx F K L e (fu + c4.length + 1 + c3.length) k3 k) = yRx F K L e fu' (b + (c1.length + c2.length + (0 + 1 + 1) + c3.length + (0 + 1) + c4.length)) ((if ySo c (v1 F K) (v2 F K) = true then v3 F K else v4 F K) :: k) := by
      intro fu
      by_cases q : ySo c (v1 F K) (v2 F K) = true
      · rw [if_pos q, if_pos q]
        obtain ⟨f3, q3, r3⟩ := d2 L e (by omega) (by rw [show b + c1.length + c2.length + 2 = b + (c1.length + c2.length + (0 + 1 + 1)) by omega]; exact p4) F K k (fu + c4.length + 1)
        refine ⟨f3 - 1, by omega, ?_⟩
        rw [r3, show f3 = f3 - 1 + 1 by omega, yRx_s (t := (14, k4)) (by omega) (by rw [show b + c1.length + c2.length + 2 + c3.length = b + (c1.length + c2.length + (0 + 1 + 1) + c3.length) by omega]; exact p5), if_neg (show ¬ (14 = 0) by decide), if_neg (show ¬ (14 = 1) by decide), if_neg (show ¬ (14 = 2) by decide), if_pos rfl, show f3 - 1 + 1 - 1 = f3 - 1 by omega]
        congr 1
        show k4 = _
        omega
      · rw [if_neg q, if_neg q]
        obtain ⟨f3, q3, r3⟩ := g2 L e (by omega) (by rw [show k3 = b + (c1.length + c2.length + (0 + 1 + 1) + c3.length + (0 + 1)) by omega]; exact p6) F K k (fu + 1 + c3.length)
        refine ⟨f3, by omega, ?_⟩
        rw [show fu + c4.length + 1 + c3.length = fu + 1 + c3.length + c4.length by omega, r3]
        congr 1
        omega
    obtain ⟨f', q', r'⟩ := fin (f2 - 2 - (c4.length + 1 + c3.length))
    refine ⟨f', by omega, ?_⟩
    rw [show f2 - 2 - (c4.length + 1 + c3.length) + c4.length + 1 + c3.length = f2 - 2 by omega] at r'
    exact r'
  · simp only [List.length_append, List.length_cons, List.length_nil]
    rcases List.mem_append.mp ht with ht | ht
    · rcases List.mem_append.mp ht with ht | ht
      · rcases List.mem_append.mp ht with ht | ht
        · rcases List.mem_append.mp ht with ht | ht
          · rcases List.mem_append.mp ht with ht | ht
            · exact yOc_up (a3 t ht) (by omega)
            · exact yOc_up (b3 t ht) (by omega)
          · rcases List.mem_cons.mp ht with rfl | ht
            · exact Or.inr (Or.inr (Or.inr (Or.inl ⟨by show 3 ≤ op; omega, ho'.2, rfl⟩)))
            · obtain rfl := List.mem_singleton.mp ht
              exact Or.inr (Or.inr (Or.inr (Or.inr ⟨Nat.le_refl _, by show 13 ≤ 14; omega, by show k3 ≤ _; omega⟩)))
        · exact yOc_up (d3 t ht) (by omega)
      · obtain rfl := List.mem_singleton.mp ht
        exact Or.inr (Or.inr (Or.inr (Or.inr ⟨by show 13 ≤ 14; omega, Nat.le_refl _, by show k4 ≤ _; omega⟩)))
    · exact yOc_up (g3 t ht) (by omega)
  · rcases List.mem_append.mp ht with ht | ht
    · rcases List.mem_append.mp ht with ht | ht
      · rcases List.mem_append.mp ht with ht | ht
        · rcases List.mem_append.mp ht with ht | ht
          · exact a4 t ht
          · exact b4 t ht
        · exact d4 t ht
      · exact g4 t ht
    · obtain rfl := List.mem_singleton.mp ht
      exact Or.inr (Or.inr (Or.inr ⟨rfl, Or.inr ⟨op, ho⟩⟩))
  · simp only [List.mem_append, List.mem_cons, List.not_mem_nil, or_false, a5, b5, d5, g5, Prod.mk.injEq]
    have hc := yCm_c ho
    constructor
    · rintro (((((h | h) | h) | h) | h) | h)
      · exact Or.inl (Or.inl (Or.inl (Or.inl h)))
      · exact Or.inl (Or.inl (Or.inl (Or.inr h)))
      · omega
      · exact Or.inl (Or.inl (Or.inr h))
      · omega
      · exact Or.inl (Or.inr h)
    · rintro ((((h | h) | h) | h) | h)
      · exact Or.inl (Or.inl (Or.inl (Or.inl (Or.inl h))))
      · exact Or.inl (Or.inl (Or.inl (Or.inl (Or.inr h))))
      · exact Or.inl (Or.inl (Or.inr h))
      · exact Or.inr h
      · omega
