/-! the reference reads as the machine does -/
theorem dvU {x : Nat} (h : x < 2147483648) : nI x / (1048576 : Int32) = nI (x / 1048576) := by
  apply Int32.toInt_inj.mp
  rw [Int32.toInt_div_of_ne_right _ _ (by decide), nI_toInt h, nI_toInt (show x / 1048576 < 2147483648 by omega), show (1048576 : Int32).toInt = 1048576 from rfl, Int.tdiv_eq_ediv_of_nonneg (by omega)]
  omega
def eU (t : Nat × Nat) : Int32 := nI (1048576 * t.1 + t.2)
theorem eU_op {t : Nat × Nat} (h1 : t.1 < 2000) (h2 : t.2 < 1048576) : eU t / (1048576 : Int32) = nI t.1 := by
  unfold eU
  rw [dvU (by omega)]
  congr 1
  omega
theorem eU_v {t : Nat × Nat} (h1 : t.1 < 2000) (h2 : t.2 < 1048576) : eU t - eU t / (1048576 : Int32) * (1048576 : Int32) = nI t.2 := by
  rw [eU_op h1 h2]
  unfold eU
  rw [show (1048576 : Int32) = nI 1048576 from rfl, nI_mul, nI_subN (by omega)]
  congr 1
  omega
def tv (ws : yL) : Int32 := match ws with
  | [] => -1
  | x :: _ => nI x.1
def yNb : yL → Nat
  | [] => 0
  | x :: ws => (if 15 ≤ x.1 then 1 else 0) + yNb ws
def yWt : yL → Nat
  | [] => 0
  | x :: ws => (if 15 ≤ x.1 then 0 else 1) + yWt ws
/-- what is said is written so, what waits too -/
def rA (M : SM) (cs : yL) : Prop := M.1 280 18 = nI cs.length ∧ ∀ i t, cs[i]? = some t → M.1 290 i = eU t
def rW (M : SM) (ws : yL) : Prop := M.1 280 19 = nI ws.length ∧ ∀ (i : Nat) (u : yL) (t : Nat × Nat) (v : yL), ws = u ++ t :: v → v.length = i → M.1 291 i = eU t
def rI (p o : Nat) (ws cs : yL) : Prop := o = yNb ws ∧ ws.length ≤ p ∧ cs.length + yWt ws ≤ p ∧ p ≤ 200 ∧ ∀ t ∈ ws, 3 ≤ t.1 ∧ t.1 ≤ 17 ∧ t.2 < 1000 ∧ (16 ≤ t.1 → t.2 < cs.length)
def rSt (M : SM) (n p o : Nat) (ws cs : yL) : Prop := M.1 280 14 = nI p ∧ M.1 280 15 = nI n ∧ M.1 280 17 = nI o ∧ rA M cs ∧ rW M ws ∧ rI p o ws cs
def rpR (c i : Nat) : Prop := (c = 280 ∧ (i = 14 ∨ (16 ≤ i ∧ i ≤ 19))) ∨ c = 290 ∨ c = 291
def tR (M : SM) (sg : Nat → Nat) (n : Nat) : Prop := n ≤ 200 ∧ ∀ p, p < n → M.1 289 p &&& 255 = nI (sg p)
theorem tR.fr {M M' : SM} {sg : Nat → Nat} {n : Nat} (h : tR M sg n) (o : Ou rpR M M') : tR M' sg n := ⟨h.1, fun p hp => by rw [o.1 289 p (by unfold rpR; omega)]; exact h.2 p hp⟩
section
variable {sg : Nat → Nat} {n : Nat}
theorem sign_g (hE : ∀ p, n ≤ p → sg p = 999) (h256 : ∀ p, p < n → sg p < 256) {M : SM} {p : Nat} (ht : tR M sg n) (hp : p ≤ n) (h1 : M.1 280 14 = nI p) (h2 : M.1 280 15 = nI n) : qmd_sign M = some (sv (sg p), M) := by
  have h3 := ht.1
  unfold qmd_sign
  rw [h1, h2]
  by_cases q : p < n
  · rw [if_pos ((nI_ltI (by omega) (by omega)).mpr q), ck_ib (by omega) (by omega), ck_t, nI_cl (by omega), ht.2 p q, sv_n (h256 p q)]
  · rw [if_neg (nI_nlt (by omega) (by omega)), hE p (by omega)]; rfl
theorem says_g {M : SM} {cs : yL} (h : rA M cs) (hl : cs.length < 220) (op v : Nat) : ∃ M' : SM, qmd_says (nI op) (nI v) M = some ((), M') ∧ rA M' (cs ++ [(op, v)]) ∧ Ou (fun c i => (c = 280 ∧ i = 18) ∨ c = 290) M M' := by
  refine ⟨wI (wI M 290 cs.length (eU (op, v))) 280 18 (nI (cs.length + 1)), ?_, ⟨?_, fun i t hi => ?_⟩, ((Ou.rf _ _).wI (by omega)).wI (by omega)⟩
  · unfold qmd_says
    rw [h.1, ck_ib (by omega) (by omega), ck_t, nI_cl (by omega), nI_1, show (1048576 : Int32) = nI 1048576 from rfl, nI_mul, nI_add]
    rfl
  · rw [wI_1, if_pos ⟨rfl, rfl⟩, List.length_append, List.length_singleton]
  · rw [wI_1, if_neg (by omega), wI_1]
    by_cases q : i < cs.length
    · rw [if_neg (by omega)]
      rw [List.getElem?_append_left q] at hi
      exact h.2 i t hi
    · rw [List.getElem?_append_right (by omega)] at hi
      have q2 : i - cs.length = 0 := by
        by_cases z0 : i - cs.length = 0
        · exact z0
        · rw [List.getElem?_eq_none (by simp only [List.length_singleton]; omega)] at hi; cases hi
      rw [q2] at hi
      obtain rfl : (op, v) = t := Option.some.inj hi
      rw [if_pos ⟨rfl, by omega⟩]
theorem holds_g {M : SM} {ws : yL} (h : rW M ws) (hl : ws.length < 220) (op v : Nat) : ∃ M' : SM, qmd_holds (nI op) (nI v) M = some ((), M') ∧ rW M' ((op, v) :: ws) ∧ Ou (fun c i => (c = 280 ∧ i = 19) ∨ c = 291) M M' := by
  refine ⟨wI (wI M 291 ws.length (eU (op, v))) 280 19 (nI (ws.length + 1)), ?_, ⟨?_, fun i u t w e hi => ?_⟩, ((Ou.rf _ _).wI (by omega)).wI (by omega)⟩
  · unfold qmd_holds
    rw [h.1, ck_ib (by omega) (by omega), ck_t, nI_cl (by omega), nI_1, show (1048576 : Int32) = nI 1048576 from rfl, nI_mul, nI_add]
    rfl
  · rw [wI_1, if_pos ⟨rfl, rfl⟩, List.length_cons]
  · rw [wI_1, if_neg (by omega), wI_1]
    cases u with
    | nil =>
      cases e
      rw [if_pos ⟨rfl, hi.symm⟩]
    | cons y u =>
      have e' : ws = u ++ t :: w := (List.cons.inj e).2
      subst e'
      rw [List.length_append, List.length_cons, if_neg (by omega)]
      exact h.2 i u t w rfl hi
theorem pop_w {M : SM} {x : Nat × Nat} {ws : yL} (h : rW M (x :: ws)) : rW (wI M 280 19 ((M.1 280 19) - (1 : Int32))) ws := by
  refine ⟨?_, fun i u t v e hi => ?_⟩
  · rw [wI_1, if_pos ⟨rfl, rfl⟩, h.1, List.length_cons, nI_m1 (by omega)]; congr 1
  · rw [wI_1, if_neg (by omega)]
    exact h.2 i (x :: u) t v (by rw [e]; rfl) hi
theorem rA.fr {M M' : SM} {cs : yL} (h : rA M cs) {s : Nat → Nat → Prop} (o : Ou s M M') (hs : ∀ c i, s c i → ¬ ((c = 280 ∧ i = 18) ∨ c = 290)) : rA M' cs := ⟨by rw [o.1 280 18 (fun z => hs _ _ z (by omega))]; exact h.1, fun i t hi => by rw [o.1 290 i (fun z => hs _ _ z (by omega))]; exact h.2 i t hi⟩
theorem rW.fr {M M' : SM} {ws : yL} (h : rW M ws) {s : Nat → Nat → Prop} (o : Ou s M M') (hs : ∀ c i, s c i → ¬ ((c = 280 ∧ i = 19) ∨ c = 291)) : rW M' ws := ⟨by rw [o.1 280 19 (fun z => hs _ _ z (by omega))]; exact h.1, fun i u t v e hi => by rw [o.1 291 i (fun z => hs _ _ z (by omega))]; exact h.2 i u t v e hi⟩
theorem top_g {M : SM} {ws : yL} (h : rW M ws) (hl : ws.length ≤ 200) (hw : ∀ t ∈ ws, t.1 ≤ 17 ∧ t.2 < 1000) : qmd_top M = some (tv ws, M) := by
  unfold qmd_top
  rw [h.1]
  cases ws with
  | nil => rw [if_pos (show nI ([] : yL).length = 0 from rfl)]; rfl
  | cons x ws =>
    rw [List.length_cons] at hl ⊢
    obtain ⟨h1, h2⟩ := hw x (by simp)
    rw [if_neg (fun q => by have := nI_inj (b := 0) (by omega) (by omega) q; omega), nI_m1 (by omega), Nat.add_sub_cancel, ck_ib (by omega) (by omega), ck_t, nI_cl (by omega), h.2 ws.length [] x ws rfl rfl, eU_op (by omega) (by omega)]
    rfl
theorem isSum_g {ws : yL} (hw : ∀ t ∈ ws, t.1 ≤ 17) (M : SM) : qmd_isSum (tv ws) M = some (if 3 ≤ yTp ws ∧ yTp ws ≤ 9 then 1 else 0, M) := by
  unfold qmd_isSum
  cases ws with
  | nil => rfl
  | cons x ws =>
    have := hw x (by simp)
    show (if nI x.1 < nI 3 then _ else if nI 9 < nI x.1 then _ else _) = _
    show _ = some (if 3 ≤ x.1 ∧ x.1 ≤ 9 then 1 else 0, M)
    by_cases q1 : x.1 < 3
    · rw [if_pos ((nI_ltI (by omega) (by omega)).mpr q1), if_neg (by omega)]
    · rw [if_neg (fun z => q1 ((nI_ltI (by omega) (by omega)).mp z))]
      by_cases q2 : 9 < x.1
      · rw [if_pos ((nI_ltI (by omega) (by omega)).mpr q2), if_neg (by omega)]
      · rw [if_neg (fun z => q2 ((nI_ltI (by omega) (by omega)).mp z)), if_pos (by omega)]
theorem isCmp_g {ws : yL} (hw : ∀ t ∈ ws, t.1 ≤ 17) (M : SM) : qmd_isCompared (tv ws) M = some (if yIc ws = true then 1 else 0, M) := by
  have key : ∀ x, (Nat.ble 10 x && Nat.ble x 12) = true ↔ 10 ≤ x ∧ x ≤ 12 := fun x => by rw [Bool.and_eq_true, Nat.ble_eq, Nat.ble_eq]
  unfold qmd_isCompared
  cases ws with
  | nil => rfl
  | cons x ws =>
    have := hw x (by simp)
    show (if nI x.1 < nI 10 then _ else if nI 12 < nI x.1 then _ else _) = _
    show _ = some (if (Nat.ble 10 x.1 && Nat.ble x.1 12) = true then 1 else 0, M)
    by_cases q1 : x.1 < 10
    · rw [if_pos ((nI_ltI (by omega) (by omega)).mpr q1), if_neg (fun z => by have := (key _).mp z; omega)]
    · rw [if_neg (fun z => q1 ((nI_ltI (by omega) (by omega)).mp z))]
      by_cases q2 : 12 < x.1
      · rw [if_pos ((nI_ltI (by omega) (by omega)).mpr q2), if_neg (fun z => by have := (key _).mp z; omega)]
      · rw [if_neg (fun z => q2 ((nI_ltI (by omega) (by omega)).mp z)), if_pos ((key _).mpr (by omega))]
theorem binds_g {op : Nat} (h : op ≤ 17) (M : SM) : qmd_binds (nI op) M = some (nI (yBd op), M) := by
  unfold qmd_binds yBd
  rw [show (8 : Int32) = nI 8 from rfl, show (5 : Int32) = nI 5 from rfl]
  by_cases q1 : op < 8
  · rw [if_pos ((nI_ltI (by omega) (by omega)).mpr q1), if_neg (show ¬ 8 ≤ op by omega)]
    by_cases q2 : op < 5
    · rw [if_pos ((nI_ltI (by omega) (by omega)).mpr q2), if_neg (show ¬ 5 ≤ op by omega)]; rfl
    · rw [if_neg (fun z => q2 ((nI_ltI (by omega) (by omega)).mp z)), if_pos (show 5 ≤ op by omega)]; rfl
  · rw [if_neg (fun z => q1 ((nI_ltI (by omega) (by omega)).mp z)), if_pos (show 8 ≤ op by omega)]; rfl
theorem rI.w1 {p o : Nat} {ws cs : yL} (h : rI p o ws cs) : ∀ t ∈ ws, t.1 ≤ 17 ∧ t.2 < 1000 := fun t ht => ⟨(h.2.2.2.2 t ht).2.1, (h.2.2.2.2 t ht).2.2.1⟩
theorem rI.w2 {p o : Nat} {ws cs : yL} (h : rI p o ws cs) : ∀ t ∈ ws, t.1 ≤ 17 := fun t ht => (h.2.2.2.2 t ht).2.1
theorem closes_g {l : Nat} (hl : l ≤ 3) : ∀ (fu : Nat) (ws cs : yL) (p o : Nat) (M : SM), ws.length < fu → rI p o ws cs → rA M cs → rW M ws →
    ∃ M' : SM, qmd_closes_L0 fu (nI l) M = some ((), M') ∧ rI p o (yCl l ws cs).1 (yCl l ws cs).2 ∧ rA M' (yCl l ws cs).2 ∧ rW M' (yCl l ws cs).1 ∧ Ou (fun c i => (c = 280 ∧ (i = 18 ∨ i = 19)) ∨ c = 290) M M' := by
  intro fu
  induction fu with
  | zero => intro ws cs p o M h; omega
  | succ fu ih =>
    intro ws cs p o M hfu hI hA hW
    have hlen : ws.length ≤ 200 := Nat.le_trans hI.2.1 hI.2.2.2.1
    unfold qmd_closes_L0
    rw [top_g hW hlen hI.w1, ob_s, isSum_g hI.w2, ob_s]
    cases ws with
    | nil =>
      refine ⟨M, ?_, hI, hA, hW, Ou.rf _ _⟩
      rw [if_pos (by rfl)]
    | cons x ws =>
      obtain ⟨i1, i2, i3, i4, i5⟩ := id hI
      obtain ⟨j1, j2, j3, j4⟩ := i5 x (by simp)
      show ∃ M', (if (if 3 ≤ x.1 ∧ x.1 ≤ 9 then (1 : Int32) else 0) = 0 then _ else _) = _ ∧ _
      by_cases q1 : 3 ≤ x.1 ∧ x.1 ≤ 9
      · rw [if_pos q1, if_neg (by decide), top_g hW hlen hI.w1, ob_s]
        show ∃ M', ob (qmd_binds (nI x.1) M) _ = _ ∧ _
        rw [binds_g (by omega), ob_s]
        have hb3 := yBd_3 x.1
        by_cases q2 : l ≤ yBd x.1
        · rw [if_neg (nI_nlt q2 (by omega)), top_g hW hlen hI.w1, ob_s]
          have ecl : yCl l (x :: ws) cs = yCl l ws (cs ++ [(x.1, 0)]) := if_pos ⟨q1.1, q1.2, q2⟩
          rw [ecl]
          have w0 : yWt (x :: ws) = 1 + yWt ws := by show (if 15 ≤ x.1 then 0 else 1) + yWt ws = _; rw [if_neg (by omega)]
          have n0 : yNb (x :: ws) = yNb ws := by show (if 15 ≤ x.1 then 1 else 0) + yNb ws = _; rw [if_neg (by omega), Nat.zero_add]
          obtain ⟨M1, g1, g2, g3⟩ := says_g hA (by omega) x.1 0
          have hW1 := hW.fr g3 (fun c i z => by omega)
          have hI' : rI p o ws (cs ++ [(x.1, 0)]) := by
            rw [List.length_cons] at i2
            refine ⟨by rw [i1, n0], by omega, by rw [List.length_append, List.length_singleton]; omega, i4, fun t ht => ?_⟩
            obtain ⟨a1, a2, a3, a4⟩ := i5 t (List.mem_cons_of_mem _ ht)
            exact ⟨a1, a2, a3, fun z => by have := a4 z; rw [List.length_append]; omega⟩
          have o1 : Ou (fun c i => (c = 280 ∧ (i = 18 ∨ i = 19)) ∨ c = 290) M (wI M1 280 19 ((M1.1 280 19) - (1 : Int32))) := (g3.mono (fun c i z => by omega)).wI (by omega)
          obtain ⟨M', k1, k2, k3, k4, k5⟩ := ih ws (cs ++ [(x.1, 0)]) p o _ (by rw [List.length_cons] at hfu; omega) hI' (g2.fr (s := fun c i => c = 280 ∧ i = 19) ((Ou.rf _ _).wI (by omega)) (fun c i z => by omega)) (pop_w hW1)
          refine ⟨M', ?_, k2, k3, k4, o1.tr k5⟩
          show ob (qmd_says (nI x.1) (nI 0) M) _ = _
          rw [g1, ob_s]
          exact k1
        · rw [if_pos ((nI_ltI (by omega) (by omega)).mpr (by omega))]
          have ecl : yCl l (x :: ws) cs = (x :: ws, cs) := if_neg (fun z => q2 z.2.2)
          rw [ecl]
          exact ⟨M, rfl, hI, hA, hW, Ou.rf _ _⟩
      · rw [if_neg q1, if_pos rfl]
        have ecl : yCl l (x :: ws) cs = (x :: ws, cs) := if_neg (fun z => q1 ⟨z.1, z.2.1⟩)
        rw [ecl]
        exact ⟨M, rfl, hI, hA, hW, Ou.rf _ _⟩
theorem lands_g : ∀ (fu : Nat) (ws cs : yL) (p o : Nat) (M : SM), ws.length < fu → rI p o ws cs → rA M cs → rW M ws → M.1 280 17 = nI o →
    ∃ M' : SM, qmd_lands_L0 fu M = some ((), M') ∧ rI p (yLn ws cs o).2.2 (yLn ws cs o).1 (yLn ws cs o).2.1 ∧ rA M' (yLn ws cs o).2.1 ∧ rW M' (yLn ws cs o).1 ∧ M'.1 280 17 = nI (yLn ws cs o).2.2 ∧ Ou (fun c i => (c = 280 ∧ (i = 17 ∨ i = 19)) ∨ c = 290) M M' := by
  intro fu
  induction fu with
  | zero => intro ws cs p o M h; omega
  | succ fu ih =>
    intro ws cs p o M hfu hI hA hW hO
    have hlen : ws.length ≤ 200 := Nat.le_trans hI.2.1 hI.2.2.2.1
    unfold qmd_lands_L0
    rw [top_g hW hlen hI.w1, ob_s]
    cases ws with
    | nil =>
      refine ⟨M, ?_, hI, hA, hW, hO, Ou.rf _ _⟩
      exact if_neg (by decide)
    | cons x ws =>
      obtain ⟨i1, i2, i3, i4, i5⟩ := id hI
      obtain ⟨j1, j2, j3, j4⟩ := i5 x (by simp)
      show ∃ M', (if nI x.1 = nI 17 then _ else _) = _ ∧ _
      by_cases q : x.1 = 17
      · rw [if_pos (by rw [q]), hW.1, List.length_cons, nI_m1 (by omega), Nat.add_sub_cancel]
        rw [List.length_cons] at hlen i2 hfu
        rw [ck_ib (by omega) (by omega), ck_t, nI_cl (by omega), hW.2 ws.length [] x ws rfl rfl, ltt_s, eU_v (by omega) (by omega), ck_ib (by omega) (by omega), ck_t, nI_cl (by omega), hA.1, show (14680064 : Int32) = nI (1048576 * 14) from rfl, nI_add, hO]
        have n0 : yNb (x :: ws) = 1 + yNb ws := by show (if 15 ≤ x.1 then 1 else 0) + yNb ws = _; rw [if_pos (by omega)]
        have w0 : yWt (x :: ws) = yWt ws := by show (if 15 ≤ x.1 then 0 else 1) + yWt ws = _; rw [if_pos (by omega), Nat.zero_add]
        rw [nI_m1 (by omega)]
        have eln : yLn (x :: ws) cs o = yLn ws (cs.set x.2 (14, cs.length)) (o - 1) := if_pos q
        rw [eln]
        have hx2 := j4 (by omega)
        have hI' : rI p (o - 1) ws (cs.set x.2 (14, cs.length)) := by
          refine ⟨by omega, by omega, by rw [List.length_set]; omega, i4, fun t ht => ?_⟩
          obtain ⟨a1, a2, a3, a4⟩ := i5 t (List.mem_cons_of_mem _ ht)
          exact ⟨a1, a2, a3, fun z => by have := a4 z; rw [List.length_set]; omega⟩
        have g : ∀ c i, (wI (wI (wI M 290 x.2 (nI (1048576 * 14 + cs.length))) 280 19 (nI ws.length)) 280 17 (nI (o - 1))).1 c i = if c = 280 ∧ i = 17 then nI (o - 1) else if c = 280 ∧ i = 19 then nI ws.length else if c = 290 ∧ i = x.2 then nI (1048576 * 14 + cs.length) else M.1 c i := fun c i => by rw [wI_1, wI_1, wI_1]
        obtain ⟨M', k1, k2, k3, k4, k5, k6⟩ := ih ws (cs.set x.2 (14, cs.length)) p (o - 1) (wI (wI (wI M 290 x.2 (nI (1048576 * 14 + cs.length))) 280 19 (nI ws.length)) 280 17 (nI (o - 1))) (by omega) hI' ⟨by rw [g, if_neg (by omega), if_neg (by omega), if_neg (by omega), List.length_set]; exact hA.1, fun i t hi => by
          rw [g, if_neg (by omega), if_neg (by omega)]
          rw [List.getElem?_set] at hi
          by_cases z : x.2 = i
          · subst z
            rw [if_pos rfl, if_pos hx2] at hi
            obtain rfl := Option.some.inj hi
            rw [if_pos ⟨rfl, rfl⟩]
            rfl
          · rw [if_neg z] at hi
            rw [if_neg (by omega)]
            exact hA.2 i t hi⟩ ⟨by rw [g, if_neg (by omega), if_pos ⟨rfl, rfl⟩], fun i u t v e hi => by
          rw [g, if_neg (by omega), if_neg (by omega), if_neg (by omega)]
          exact hW.2 i (x :: u) t v (by rw [e]; rfl) hi⟩ (by rw [g, if_pos ⟨rfl, rfl⟩])
        refine ⟨M', k1, k2, k3, k4, k5, Ou.tr ?_ k6⟩
        exact (((Ou.rf _ _).wI (by omega)).wI (by omega)).wI (by omega)
      · rw [if_neg (fun z => q (nI_inj (by omega) (by omega) z))]
        have eln : yLn (x :: ws) cs o = (x :: ws, cs, o) := if_neg q
        rw [eln]
        exact ⟨M, rfl, hI, hA, hW, hO, Ou.rf _ _⟩
end
