/-! the reference's formula, step by step -/
section
variable {sg : Nat → Nat} {n : Nat}
theorem tv_eq {ws : yL} (hw : ∀ t ∈ ws, t.1 ≤ 17) (k : Nat) (hk : k ≤ 17) : tv ws = nI k ↔ yTp ws = k := by
  cases ws with
  | nil => exact ⟨fun q => absurd q.symm (nI_ne_m1 (show k < 2147483648 by omega)), fun q => by have : 99 = k := q; omega⟩
  | cons z ws =>
    have := hw z (by simp)
    exact ⟨fun q => nI_inj (a := z.1) (by omega) (by omega) q, fun q => congrArg nI (show z.1 = k from q)⟩
theorem itv {α : Type} {ws : yL} (hw : ∀ t ∈ ws, t.1 ≤ 17) (k : Nat) (hk : k ≤ 17) {K : Int32} (hK : K = nI k) {d : Decidable (tv ws = K)} {x y : α} : @ite α (tv ws = K) d x y = if yTp ws = k then x else y := by
  subst hK
  have e := tv_eq hw k hk
  by_cases q : yTp ws = k
  · rw [if_pos q, if_pos (e.mpr q)]
  · rw [if_neg q, if_neg (fun z => q (e.mp z))]
theorem yTp_c {ws : yL} {k : Nat} (h : yTp ws = k) (hk : k ≠ 99) : ∃ v ws', ws = (k, v) :: ws' := by
  cases ws with
  | nil => exact absurd h.symm hk
  | cons z ws => exact ⟨z.2, ws, by show z :: ws = _; rw [← show z.1 = k from h]⟩
theorem pre_g {M : SM} {p o : Nat} {ws cs : yL} (h : rSt M n p o ws cs) : ∃ M1 : SM, qmd_closes (1 : Int32) M = some ((), M1) ∧ rSt M1 n p o (yCl 1 ws cs).1 (yCl 1 ws cs).2 ∧ Ou rpR M M1 ∧ qmd_top M1 = some (tv (yCl 1 ws cs).1, M1) ∧ qmd_isCompared (tv (yCl 1 ws cs).1) M1 = some (if yIc (yCl 1 ws cs).1 = true then 1 else 0, M1) := by
  have h' := h
  obtain ⟨h1, h2, h3, h4, h5, h6⟩ := h
  obtain ⟨M1, g1, g2, g3, g4, g5⟩ := closes_g (l := 1) (by omega) FU ws cs p o M (by have := h6.2.1; have := h6.2.2.2.1; unfold FU; omega) h6 h4 h5
  refine ⟨M1, g1, rSt_m h' g5 (fun c i z => by omega) (by rw [g5.1 280 14 (by omega)]; exact h1) (by rw [g5.1 280 17 (by omega)]; exact h3) g3 g4 g2, g5.mono (fun c i z => by unfold rpR; omega), top_g g4 (Nat.le_trans g2.2.1 g2.2.2.2.1) g2.w1, isCmp_g g2.w2 _⟩
theorem preL_g {l : Nat} (hl : l ≤ 3) {M : SM} {p o : Nat} {ws cs : yL} (h : rSt M n p o ws cs) : ∃ M1 : SM, qmd_closes (nI l) M = some ((), M1) ∧ rSt M1 n p o (yCl l ws cs).1 (yCl l ws cs).2 ∧ Ou rpR M M1 := by
  have h' := h
  obtain ⟨h1, h2, h3, h4, h5, h6⟩ := h
  obtain ⟨M1, g1, g2, g3, g4, g5⟩ := closes_g hl FU ws cs p o M (by have := h6.2.1; have := h6.2.2.2.1; unfold FU; omega) h6 h4 h5
  exact ⟨M1, g1, rSt_m h' g5 (fun c i z => by omega) (by rw [g5.1 280 14 (by omega)]; exact h1) (by rw [g5.1 280 17 (by omega)]; exact h3) g3 g4 g2, g5.mono (fun c i z => by unfold rpR; omega)⟩
theorem land_g {M : SM} {p o : Nat} {ws cs : yL} (h : rSt M n p o ws cs) : ∃ M1 : SM, qmd_lands M = some ((), M1) ∧ rSt M1 n p (yLn ws cs o).2.2 (yLn ws cs o).1 (yLn ws cs o).2.1 ∧ Ou rpR M M1 ∧ qmd_top M1 = some (tv (yLn ws cs o).1, M1) := by
  have h' := h
  obtain ⟨h1, h2, h3, h4, h5, h6⟩ := h
  obtain ⟨M1, g1, g2, g3, g4, g5, g6⟩ := lands_g FU ws cs p o M (by have := h6.2.1; have := h6.2.2.2.1; unfold FU; omega) h6 h4 h5 h3
  exact ⟨M1, g1, rSt_m h' g6 (fun c i z => by omega) (by rw [g6.1 280 14 (by omega)]; exact h1) g5 g3 g4 g2, g6.mono (fun c i z => by unfold rpR; omega), top_g g4 (Nat.le_trans g2.2.1 g2.2.2.2.1) g2.w1⟩
/-- a sign held back, and passed -/
theorem held_g {M : SM} {p o : Nat} {ws cs : yL} (h : rSt M n p o ws cs) (hp : p < 200) (op v o' : Nat) (hop : 3 ≤ op ∧ op ≤ 17) (hv : v < 1000) (hc : 16 ≤ op → v < cs.length) (ho : o' = (if 15 ≤ op then 1 else 0) + o) : ∃ M1 : SM, qmd_holds (nI op) (nI v) (wI M 280 17 (nI o')) = some ((), M1) ∧ M1.1 280 14 = nI p ∧ rSt (wI M1 280 14 (nI (p + 1))) n (p + 1) o' ((op, v) :: ws) cs ∧ Ou rpR M (wI M1 280 14 (nI (p + 1))) := by
  have h' := h
  obtain ⟨h1, h2, h3, h4, h5, h6⟩ := h
  obtain ⟨i1, i2, i3, i4, i5⟩ := h6
  have o0 : Ou (fun c i => c = 280 ∧ i = 17) M (wI M 280 17 (nI o')) := (Ou.rf _ _).wI ⟨rfl, rfl⟩
  obtain ⟨M1, g1, g2, g3⟩ := holds_g (h5.fr o0 (fun c i z => by omega)) (by omega) op v
  have o1 : Ou (fun c i => (c = 280 ∧ (i = 14 ∨ i = 17 ∨ i = 19)) ∨ c = 291) M (wI M1 280 14 (nI (p + 1))) := ((o0.mono (fun c i z => by omega)).tr (g3.mono (fun c i z => by omega))).wI (by omega)
  refine ⟨M1, g1, ?_, ?_, o1.mono (fun c i z => by unfold rpR; omega)⟩
  · rw [g3.1 280 14 (by omega), wI_1, if_neg (by omega)]; exact h1
  · refine rSt_m h' o1 (fun c i z => by omega) (by rw [wI_1, if_pos ⟨rfl, rfl⟩]) (by rw [wI_1, if_neg (by omega), g3.1 280 17 (by omega), wI_1, if_pos ⟨rfl, rfl⟩]) (h4.fr o1 (fun c i z => by omega)) (g2.fr (s := fun c i => c = 280 ∧ i = 14) ((Ou.rf _ _).wI ⟨rfl, rfl⟩) (fun c i z => by omega)) ⟨?_, ?_, ?_, by omega, fun t ht => ?_⟩
    · rw [ho, i1]; rfl
    · rw [List.length_cons]; omega
    · show cs.length + ((if 15 ≤ op then 0 else 1) + yWt ws) ≤ p + 1
      by_cases q : 15 ≤ op
      · rw [if_pos q]; omega
      · rw [if_neg q]; omega
    · rcases List.mem_cons.mp ht with rfl | ht
      · exact ⟨hop.1, hop.2, hv, hc⟩
      · exact i5 t ht
theorem wI_sm {M : SM} {c i : Nat} {v : Int32} (h : M.1 c i = v) : wI M c i v = M := by
  show (upI M.1 c i v, M.2) = (M.1, M.2)
  congr 1
  funext a b
  have := wI_1 M c i v a b
  show (wI M c i v).1 a b = M.1 a b
  rw [this]
  by_cases q : a = c ∧ b = i
  · rw [if_pos q, q.1, q.2, h]
  · rw [if_neg q]
theorem held0_g {M : SM} {p o : Nat} {ws cs : yL} (h : rSt M n p o ws cs) (hp : p < 200) (op : Nat) (hop : 3 ≤ op ∧ op ≤ 12) : ∃ M1 : SM, qmd_holds (nI op) (0 : Int32) M = some ((), M1) ∧ M1.1 280 14 = nI p ∧ rSt (wI M1 280 14 (nI (p + 1))) n (p + 1) o ((op, 0) :: ws) cs ∧ Ou rpR M (wI M1 280 14 (nI (p + 1))) := by
  have := held_g h hp op 0 o ⟨hop.1, by omega⟩ (by omega) (fun z => by omega) (by rw [if_neg (by omega), Nat.zero_add])
  rw [wI_sm h.2.2.1] at this
  exact this
theorem rOut_w {M M' : SM} {k p : Nat} (h14 : M'.1 280 14 = nI p) : ∃ r M2, zw (nI k) M' = some (r, M2) ∧ rOut n r M2 (Sum.inl (k, p)) ∧ Ou rpR M' M2 := by
  refine ⟨0, _, zw_e _ _, ⟨rfl, ?_⟩, (Ou.rf _ _).wI (by unfold rpR; omega)⟩
  rw [wI_1, if_pos ⟨rfl, rfl⟩, h14]
theorem run_g (hE : ∀ p, n ≤ p → sg p = 999) (h256 : ∀ p, p < n → sg p < 256) : ∀ k p, n - p < k → p ≤ n →
    (∀ (a b : Nat) (M : SM) (o : Nat) (ws cs : yL), n - p < a → n - p < b → tR M sg n → rSt M n p o ws cs → ∃ r M', aRun a b M = some (r, M') ∧ rOut n r M' (yRr sg n true p o ws cs) ∧ Ou rpR M M') ∧
    (∀ (a c : Nat) (M : SM) (o : Nat) (ws cs : yL), n - p < a → n - p < c → tR M sg n → rSt M n p o ws cs → ∃ r M', qmd_readsFormula_L19 (zco a) c M = some (r, M') ∧ rOut n r M' (yRr sg n false p o ws cs) ∧ Ou rpR M M') := by
  intro k
  induction k with
  | zero => intro p h; omega
  | succ k ih =>
    intro p hk hp
    have hc : cOk (sg p) := by
      by_cases q : p < n
      · exact Or.inr (h256 p q)
      · exact Or.inl (hE p (by omega))
    refine ⟨fun a b M o ws cs ha hb ht h => ?_, fun a c M o ws cs ha hcc ht h => ?_⟩
    · -- a factor
      have hn := ht.1
      have h' := h
      obtain ⟨h1, h2, h3, h4, h5, h6⟩ := h
      obtain ⟨i1, i2, i3, i4, i5⟩ := id h6
      obtain ⟨b, rfl⟩ : ∃ y, b = y + 1 := ⟨b - 1, by omega⟩
      have un : aRun a (b + 1) M = ob (ob (qmd_sign M) (fun r1 M2 =>
    if r1 = (40 : Int32) then
    (if (M2.1 280 17) = (6 : Int32) then
      (zw (5 : Int32) M2) else
      (ob (qmd_holds (15 : Int32) (0 : Int32) (wI M2 280 17 ((M2.1 280 17) + (1 : Int32)))) (fun _ M4 =>
        qmd_readsFactor_L0 (zw (5 : Int32)) zk58 b (wI M4 280 14 ((M4.1 280 14) + (1 : Int32)))))) else
    (zk58 M2))) (fun r1 M2 =>
    if r1 = 0 then
    (some ((0 : Int32), M2)) else
    (qmd_readsFormula_L19 (zco a) FU M2)) := rfl
      have hsg := sign_g hE h256 ht hp h1 h2
      rw [un, yRr_a hE hp, hsg, ob_s, iSg (K := (40 : Int32)) hc 40 (by omega) rfl]
      unfold yRa
      have bad : ∀ (kk q : Nat) (M' : SM), M'.1 280 14 = nI q → Ou rpR M M' → ∃ r M2, ob (zw (nI kk) M') (fun r1 M2 =>
    if r1 = 0 then
    (some ((0 : Int32), M2)) else
    (qmd_readsFormula_L19 (zco a) FU M2)) = some (r, M2) ∧ rOut n r M2 (Sum.inl (kk, q)) ∧ Ou rpR M M2 := fun kk q M' e o1 => by
        obtain ⟨r, M2, z1, z2, z3⟩ := rOut_w (n := n) (M := M) (k := kk) e
        refine ⟨r, M2, ?_, z2, o1.tr z3⟩
        rw [z1, ob_s, z2.1, if_pos rfl]
      have good : ∀ (q : Nat) (cs' : yL) (M' : SM), p < q → q ≤ n → rSt M' n q o ws cs' → Ou rpR M M' → ∃ r M2, ob (some ((1 : Int32), M')) (fun r1 M2 =>
    if r1 = 0 then
    (some ((0 : Int32), M2)) else
    (qmd_readsFormula_L19 (zco a) FU M2)) = some (r, M2) ∧ rOut n r M2 (yRr sg n false q o ws cs') ∧ Ou rpR M M2 := fun q cs' M' e1 e2 e3 e4 => by
        obtain ⟨-, j2⟩ := ih q (by omega) e2
        obtain ⟨r, M2, z1, z2, z3⟩ := j2 a FU M' o ws cs' (by omega) (by unfold FU; omega) (ht.fr e4) e3
        exact ⟨r, M2, by rw [ob_s, if_neg (by decide)]; exact z1, z2, e4.tr z3⟩
      by_cases q1 : sg p = 40
      · have hlt : p < n := y_lt hE (by omega)
        rw [if_pos q1, if_pos q1, h3]
        have ho200 : o ≤ 200 := by
          have : ∀ w : yL, yNb w ≤ w.length := by
            intro w
            induction w with
            | nil => exact Nat.le_refl _
            | cons x w ih =>
              show (if 15 ≤ x.1 then 1 else 0) + yNb w ≤ w.length + 1
              by_cases z : 15 ≤ x.1
              · rw [if_pos z]; omega
              · rw [if_neg z]; omega
          have := this ws
          omega
        by_cases q2 : o = 6
        · rw [if_pos (by rw [q2]; rfl), if_pos q2]
          exact bad 5 p M h1 (Ou.rf _ _)
        · rw [if_neg (show ¬ nI o = (6 : Int32) from fun z => q2 (nI_inj (b := 6) (by omega) (by omega) z)), if_neg q2, nI_1]
          obtain ⟨M1, g1, g2, g3, g4⟩ := held_g h' (by omega) 15 0 (o + 1) (by omega) (by omega) (fun z => by omega) (by rw [if_pos (by omega)]; omega)
          obtain ⟨j1, -⟩ := ih (p + 1) (by omega) (by omega)
          obtain ⟨r, M2, z1, z2, z3⟩ := j1 a b _ (o + 1) ((15, 0) :: ws) cs (by omega) (by omega) (ht.fr g4) g3
          refine ⟨r, M2, ?_, z2, g4.tr z3⟩
          show ob (ob (qmd_holds (nI 15) (nI 0) (wI M 280 17 (nI (o + 1)))) _) _ = _
          rw [g1, ob_s, g2, nI_1]
          exact z1
      · rw [if_neg q1, if_neg q1]
        unfold zk58
        rw [hsg, ob_s, isDm_g hc, ob_s]
        by_cases q2 : yDg (sg p) = true
        · rw [if_pos q2, if_neg (by decide), if_pos q2]
          unfold zdig
          rw [h1]
          obtain ⟨M', g1, g2, g3⟩ := mdig_g hE h256 (x := 0) (p0 := p) 6 FU p 0 M o ws cs (by unfold FU; omega) (by omega) (by omega) (by decide) ht hp h1 h2
          have o3 : Ou rpR M M' := g3.mono (fun c i z => by unfold rpR; omega)
          rw [show qmd_readsFactor_L77 (zw (2 : Int32)) (fun y3_73 M74 => ob (qmd_says (0 : Int32) y3_73 M74) (fun _ M75 => some ((1 : Int32), M75))) FU (nI p) (0 : Int32) M = _ from g1]
          cases hd : yDs sg 6 p 0 with
          | inl q =>
            rw [hd] at g2
            exact bad 2 q M' g2.2 o3
          | inr r =>
            rw [hd] at g2
            obtain ⟨d1, d2, d3⟩ := yDs_6 hE hp q2 hd
            have hA := h4.fr g3 (fun c i z => by omega)
            obtain ⟨M2, e1, e2, e3⟩ := says_g hA (by omega) 0 r.2
            have o4 : Ou (fun c i => (c = 280 ∧ (i = 14 ∨ i = 18)) ∨ c = 290) M M2 := (g3.mono (fun c i z => by omega)).tr (e3.mono (fun c i z => by omega))
            have hrs : rSt M2 n r.1 o ws (cs ++ [(0, r.2)]) := rSt_m h' o4 (fun c i z => by omega) (by rw [e3.1 280 14 (by omega)]; exact g2.2) (by rw [o4.1 280 17 (by omega)]; exact h3) e2 (h5.fr o4 (fun c i z => by omega)) ⟨i1, by omega, by rw [List.length_append, List.length_singleton]; omega, by omega, fun t ht => by
              obtain ⟨a1, a2, a3, a4⟩ := i5 t ht
              exact ⟨a1, a2, a3, fun z => by have := a4 z; rw [List.length_append]; omega⟩⟩
            show ∃ r' M'', ob (ob (qmd_says (nI 0) (nI r.2) M') _) _ = _ ∧ _
            rw [e1, ob_s]
            exact good r.1 _ M2 d1 d2 hrs (o4.mono (fun c i z => by unfold rpR; omega))
        · rw [if_neg q2, if_pos rfl, if_neg q2, isLm_g hc, ob_s]
          by_cases q3 : yLt (sg p) = true
          · have hle := yLt_iff.mp q3
            have hlt : p < n := y_lt hE (by omega)
            obtain ⟨M1, e1, -, -⟩ := says_g h4 (by omega) 1 (sg p - 65)
            obtain ⟨M2, f1, f2, f3⟩ := said_g h' (q := p + 1) (by omega) (by omega) 1 (sg p - 65) e1
            have e14 : M1.1 280 14 = nI p := by
              obtain ⟨M1', e1', -, e3'⟩ := says_g h4 (show cs.length < 220 by omega) 1 (sg p - 65)
              rw [e1] at e1'
              obtain rfl : M1 = M1' := (some_p e1').2
              rw [e3'.1 280 14 (by omega)]; exact h1
            rw [if_pos q3, if_pos q3]
            simp only [jn_ap]
            rw [if_neg (by decide), isLm_g hc, ob_s, if_pos q3, if_neg (by decide), isLm_g hc, ob_s, if_pos q3, if_neg (by decide)]
            rw [show sv (sg p) - (65 : Int32) = nI (sg p - 65) by rw [sv_n (by omega), show (65 : Int32) = nI 65 from rfl, nI_subN (by omega)], show (1 : Int32) = nI 1 from rfl, e1, ob_s, e14, nI_add, f1]
            exact good (p + 1) _ M2 (by omega) (by omega) f2 f3
          · rw [if_neg q3, if_neg q3]
            simp only [jn_ap]
            rw [if_pos trivial, factOf_e, ob_s, fO_ok hc]
            cases hfc : yFc (sg p) with
            | none =>
              show ∃ r M', ob (if (-1 : Int32) = -1 then _ else _) _ = _ ∧ _
              rw [if_pos rfl]
              exact bad 1 p M h1 (Ou.rf _ _)
            | some w =>
              have hlt : p < n := y_lt hE fun q => by rw [q] at hfc; cases hfc
              have hw10 : w < 10 := by
                unfold yFc at hfc
                repeat' (split at hfc)
                all_goals first
                  | (cases hfc; omega)
                  | cases hfc
              obtain ⟨M1, e1, -, e3⟩ := says_g h4 (by omega) 2 w
              obtain ⟨M2, f1, f2, f3⟩ := said_g h' (q := p + 1) (by omega) (by omega) 2 w e1
              have e14 : M1.1 280 14 = nI p := by rw [e3.1 280 14 (by omega)]; exact h1
              show ∃ r M', ob (if nI w = -1 then _ else _) _ = _ ∧ _
              rw [if_neg (nI_ne_m1 (by omega)), isLm_g hc, ob_s, if_neg q3, if_pos rfl, isLm_g hc, ob_s, if_neg q3, if_pos rfl, factOf_e, ob_s, fO_ok hc, hfc]
              show ∃ r M', ob (ob (qmd_says (nI 2) (nI w) M) _) _ = _ ∧ _
              rw [e1, ob_s, e14, nI_1, f1]
              exact good (p + 1) _ M2 (by omega) (by omega) f2 f3
    · -- behind a factor
      have hn := ht.1
      have h' := h
      obtain ⟨h1, h2, h3, h4, h5, h6⟩ := h
      obtain ⟨i1, i2, i3, i4, i5⟩ := id h6
      obtain ⟨c, rfl⟩ : ∃ y, c = y + 1 := ⟨c - 1, by omega⟩
      obtain ⟨a, rfl⟩ : ∃ y, a = y + 1 := ⟨a - 1, by omega⟩
      have un : qmd_readsFormula_L19 (zco (a + 1)) (c + 1) M = ob (qmd_sign M) (fun r4 M5 =>
    if r4 = (41 : Int32) then
    (ob (qmd_shuts M5) (fun r7 M8 =>
      if r7 = 0 then
      (some ((0 : Int32), M8)) else
      (qmd_readsFormula_L19 (zco (a + 1)) c M8))) else
    (zco (a + 1) M5)) := rfl
      have hsg := sign_g hE h256 ht hp h1 h2
      rw [un, yRr_b hE hp, hsg, ob_s, iSg (K := (41 : Int32)) hc 41 (by omega) rfl]
      unfold yRb
      obtain ⟨M1, c1, c2, c3, c4, c5⟩ := pre_g h'
      have c2' := c2
      obtain ⟨x1, x2, x3, x4, x5, x6⟩ := c2
      have toA : ∀ (o' : Nat) (ws' cs' : yL) (M' : SM), p < n → rSt M' n (p + 1) o' ws' cs' → Ou rpR M M' → ∃ r M2, qmd_readsFormula_L10 (zw (1 : Int32)) zk174 (a + 1) M' = some (r, M2) ∧ rOut n r M2 (yRr sg n true (p + 1) o' ws' cs') ∧ Ou rpR M M2 := fun o' ws' cs' M' e2 e3 e4 => by
        obtain ⟨j1, -⟩ := ih (p + 1) (by omega) (by omega)
        obtain ⟨r, M2, z1, z2, z3⟩ := j1 a FU M' o' ws' cs' (by omega) (by unfold FU; omega) (ht.fr e4) e3
        exact ⟨r, M2, by rw [L10_e]; exact z1, z2, e4.tr z3⟩
      by_cases q41 : sg p = 41
      · have hlt : p < n := y_lt hE (by omega)
        rw [if_pos q41, show yOp (sg p) = none by rw [q41]; decide]
        show ∃ r M', _ ∧ rOut n r M' (yRt sg (yRr sg n) p o (yCl 1 ws cs).1 (yCl 1 ws cs).2) ∧ _
        unfold yRt
        rw [show yCm (sg p) = none by rw [q41]; decide]
        show ∃ r M', _ ∧ rOut n r M' (if sg p = 63 then _ else if yIc (yCl 1 ws cs).1 = true then _ else _) ∧ _
        rw [if_neg (show ¬ sg p = 63 by omega)]
        unfold qmd_shuts
        rw [c1, ob_s, c4, ob_s, c5, ob_s]
        by_cases qi : yIc (yCl 1 ws cs).1 = true
        · rw [if_pos qi, if_pos qi, if_neg (by decide)]
          obtain ⟨r, M2, z1, z2, z3⟩ := rOut_w (n := n) (M := M) (k := 1) x1
          refine ⟨r, M2, ?_, z2, c3.tr z3⟩
          show ob (zw (nI 1) M1) _ = _
          rw [z1, ob_s, z2.1, if_pos rfl]
        · rw [if_neg qi, if_neg qi, if_pos rfl]
          obtain ⟨M2, d1, d2, d3, d4⟩ := land_g c2'
          have d2' := d2
          obtain ⟨u1, u2, u3, u4, u5, u6⟩ := d2
          obtain ⟨v1, v2, v3, v4, v5⟩ := id u6
          rw [d1, ob_s, d4, ob_s, itv (K := (15 : Int32)) u6.w2 15 (by omega) rfl]
          unfold yRu
          rw [if_pos q41]
          by_cases q15 : yTp (yLn (yCl 1 ws cs).1 (yCl 1 ws cs).2 o).1 = 15
          · rw [if_pos q15, if_pos q15, ob_s, if_neg (by decide)]
            obtain ⟨vv, w', ew⟩ := yTp_c q15 (by omega)
            rw [ew] at u5 v1 v2 v3 v5 ⊢
            rw [List.length_cons] at v2
            have n0 : yNb ((15, vv) :: w') = 1 + yNb w' := rfl
            have w0 : yWt ((15, vv) :: w') = 0 + yWt w' := rfl
            have o1 : Ou (fun c i => c = 280 ∧ (i = 14 ∨ i = 17 ∨ i = 19)) M2 (wI (wI (wI M2 280 19 ((M2.1 280 19) - (1 : Int32))) 280 17 ((M2.1 280 17) - (1 : Int32))) 280 14 ((M2.1 280 14) + (1 : Int32))) := (((Ou.rf _ _).wI (by omega)).wI (by omega)).wI (by omega)
            obtain ⟨-, j2⟩ := ih (p + 1) (by omega) (by omega)
            have o2 : Ou rpR M (wI (wI (wI M2 280 19 ((M2.1 280 19) - (1 : Int32))) 280 17 ((M2.1 280 17) - (1 : Int32))) 280 14 ((M2.1 280 14) + (1 : Int32))) := (c3.tr d3).tr (o1.mono (fun c i z => by unfold rpR; omega))
            obtain ⟨r, M3, z1, z2, z3⟩ := j2 (a + 1) c _ ((yLn (yCl 1 ws cs).1 (yCl 1 ws cs).2 o).2.2 - 1) w' (yLn (yCl 1 ws cs).1 (yCl 1 ws cs).2 o).2.1 (by omega) (by omega) (ht.fr o2) (rSt_m d2' o1 (fun c i z => by omega) (by rw [wI_1, if_pos ⟨rfl, rfl⟩, u1, nI_1]) (by rw [wI_1, if_neg (by omega), wI_1, if_pos ⟨rfl, rfl⟩, u3, nI_m1 (by omega)]) (u4.fr o1 (fun c i z => by omega)) ((pop_w u5).fr (s := fun c i => c = 280 ∧ (i = 14 ∨ i = 17)) (((Ou.rf _ _).wI (by omega)).wI (by omega)) (fun c i z => by omega)) ⟨by omega, by omega, by omega, by omega, fun t ht => v5 t (List.mem_cons_of_mem _ ht)⟩)
            exact ⟨r, M3, z1, z2, o2.tr z3⟩
          · rw [if_neg q15, if_neg q15]
            obtain ⟨r, M3, z1, z2, z3⟩ := rOut_w (n := n) (M := M) (k := 1) u1
            refine ⟨r, M3, ?_, z2, (c3.tr d3).tr z3⟩
            show ob (zw (nI 1) M2) _ = _
            rw [z1, ob_s, z2.1, if_pos rfl]
      · rw [if_neg q41]
        unfold zco
        rw [hsg, ob_s]
        simp only [jn_ap]
        rw [iSm hc]
        have endK : ∀ (M0 : SM), M0 = M → yOp (sg p) = none → yCm (sg p) = none → ¬ sg p = 63 → ¬ sg p = 58 → ∃ r M', zk174 M0 = some (r, M') ∧ rOut n r M' (yRt sg (yRr sg n) p o (yCl 1 ws cs).1 (yCl 1 ws cs).2) ∧ Ou rpR M M' := by
          intro M0 e0 e1 e2 e3 e4
          subst e0
          unfold yRt
          rw [e2]
          show ∃ r M', _ ∧ rOut n r M' (if sg p = 63 then _ else if yIc (yCl 1 ws cs).1 = true then _ else _) ∧ _
          rw [if_neg e3]
          unfold zk174
          rw [c1, ob_s, c4, ob_s, c5, ob_s]
          by_cases qi : yIc (yCl 1 ws cs).1 = true
          · rw [if_pos qi, if_pos qi, if_neg (by decide)]
            obtain ⟨r, M2, z1, z2, z3⟩ := rOut_w (n := n) (M := M0) (k := 1) x1
            exact ⟨r, M2, z1, z2, c3.tr z3⟩
          · rw [if_neg qi, if_neg qi, if_pos rfl]
            obtain ⟨M2, d1, d2, d3, d4⟩ := land_g c2'
            have d2' := d2
            obtain ⟨u1, u2, u3, u4, u5, u6⟩ := d2
            unfold yRu
            rw [if_neg q41, if_neg e4, d1, ob_s, u5.1]
            by_cases ql : (yLn (yCl 1 ws cs).1 (yCl 1 ws cs).2 o).1.length = 0
            · rw [if_pos ql, if_pos (by rw [ql]; rfl)]
              refine ⟨1, M2, rfl, ⟨rfl, ?_⟩, c3.tr d3⟩
              have e5 := List.eq_nil_of_length_eq_zero ql
              have e6 := u6.1
              rw [e5] at d2' e6
              rw [e6] at d2'
              exact d2'
            · have ul := u6.2.1
              have ul2 := u6.2.2.2.1
              rw [if_neg ql, if_neg (show ¬ nI (yLn (yCl 1 ws cs).1 (yCl 1 ws cs).2 o).1.length = (0 : Int32) from fun z => ql (nI_inj (b := 0) (by omega) (by omega) z)), u1, show (1 : Int32) = nI 1 from rfl, wrong_e, ob_s, if_pos rfl]
              refine ⟨0, _, rfl, ⟨rfl, ?_⟩, (c3.tr d3).tr ((Ou.rf _ _).wI (by unfold rpR; omega))⟩
              rw [wI_1, if_pos ⟨rfl, rfl⟩]
        rcases hc with h999 | hlt256
        · rw [if_pos h999, if_pos trivial, if_pos trivial, iSg (K := (63 : Int32)) (Or.inl h999) 63 (by omega) rfl, if_neg (by omega), iSg (K := (58 : Int32)) (Or.inl h999) 58 (by omega) rfl, if_neg (by omega)]
          have o999 : yOp (sg p) = none := by rw [h999]; rfl
          rw [o999]
          exact endK M rfl o999 (by rw [h999]; rfl) (by omega) (by omega)
        · have hlt : p < n := y_lt hE (by omega)
          have hok : cOk (sg p) := Or.inr hlt256
          rw [if_neg (by omega), opOf_e, ob_s]
          have eoo : oO (sv (sg p)) = (match yOp (sg p) with | none => (match yCm (sg p) with | none => -1 | some w => nI w) | some w => nI w) := by rw [sv_n hlt256]; exact oO_g _ hlt256
          rw [eoo]
          cases hop : yOp (sg p) with
          | some op =>
            have hr := yOp_r hop
            have hb3 := yBd_3 op
            dsimp only
            rw [if_neg (nI_ne_m1 (by omega))]
            have e1 : qmd_isSum (nI op) M = some (1, M) := by
              have := isSum_g (ws := [(op, 0)]) (fun t ht => by rw [List.mem_singleton.mp ht]; show op ≤ 17; omega) M
              rw [show yTp [(op, 0)] = op from rfl, if_pos hr] at this
              exact this
            rw [e1, ob_s, if_neg (by decide), binds_g (by omega), ob_s]
            obtain ⟨M2, g1, g2, g3⟩ := preL_g (l := yBd op) hb3 h'
            obtain ⟨M3, g4, g5, g6, g7⟩ := held0_g g2 (by omega) op ⟨hr.1, by omega⟩
            rw [g1, ob_s, g4, ob_s, g5, nI_1]
            exact toA o _ _ _ hlt g6 (g3.tr g7)
          | none =>
            dsimp only
            cases hcm : yCm (sg p) with
            | some op =>
              have hr := yCm_r hcm
              dsimp only
              rw [if_neg (nI_ne_m1 (by omega))]
              have e1 : qmd_isSum (nI op) M = some (0, M) := by
                have := isSum_g (ws := [(op, 0)]) (fun t ht => by rw [List.mem_singleton.mp ht]; show op ≤ 17; omega) M
                rw [show yTp [(op, 0)] = op from rfl, if_neg (by omega)] at this
                exact this
              rw [e1, ob_s, if_pos rfl, if_neg (nI_ne_m1 (by omega)), c1, ob_s, c4, ob_s, c5, ob_s]
              unfold yRt
              rw [hcm]
              show ∃ r M', _ ∧ rOut n r M' (if yIc (yCl 1 ws cs).1 = true then _ else _) ∧ _
              by_cases qi : yIc (yCl 1 ws cs).1 = true
              · rw [if_pos qi, if_pos qi, if_neg (by decide)]
                obtain ⟨r, M2, z1, z2, z3⟩ := rOut_w (n := n) (M := M) (k := 1) x1
                exact ⟨r, M2, z1, z2, c3.tr z3⟩
              · rw [if_neg qi, if_neg qi, if_pos rfl]
                obtain ⟨M3, g4, g5, g6, g7⟩ := held0_g c2' (by omega) op ⟨by omega, hr.2⟩
                rw [g4, ob_s, g5, nI_1]
                exact toA o _ _ _ hlt g6 (c3.tr g7)
            | none =>
              dsimp only
              rw [if_pos rfl, if_pos rfl, iSg (K := (63 : Int32)) hok 63 (by omega) rfl, iSg (K := (58 : Int32)) hok 58 (by omega) rfl]
              by_cases q63 : sg p = 63
              · rw [if_pos q63]
                unfold yRt
                rw [hcm]
                show ∃ r M', _ ∧ rOut n r M' (if sg p = 63 then (if yIc (yCl 1 ws cs).1 = true then _ else _) else _) ∧ _
                rw [if_pos q63]
                unfold qmd_asks
                rw [c1, ob_s, c4, ob_s, c5, ob_s]
                by_cases qi : yIc (yCl 1 ws cs).1 = true
                · rw [if_pos qi, if_pos qi, if_neg (by decide), x3]
                  obtain ⟨y1, y2, y3, y4, y5⟩ := id x6
                  have ho200 : o ≤ 200 := by
                    have : ∀ w : yL, yNb w ≤ w.length := by
                      intro w
                      induction w with
                      | nil => exact Nat.le_refl _
                      | cons x w ih =>
                        show (if 15 ≤ x.1 then 1 else 0) + yNb w ≤ w.length + 1
                        by_cases z : 15 ≤ x.1
                        · rw [if_pos z]; omega
                        · rw [if_neg z]; omega
                    have := this ws
                    omega
                  by_cases q6 : o = 6
                  · rw [if_pos q6, if_pos (by rw [q6]; rfl)]
                    obtain ⟨r, M2, z1, z2, z3⟩ := rOut_w (n := n) (M := M) (k := 5) x1
                    refine ⟨r, M2, ?_, z2, c3.tr z3⟩
                    show ob (zw (nI 5) M1) _ = _
                    rw [z1, ob_s, z2.1, if_pos rfl]
                  · rw [if_neg q6, if_neg (show ¬ nI o = (6 : Int32) from fun z => q6 (nI_inj (b := 6) (by omega) (by omega) z)), c4, ob_s]
                    have hi2 : 10 ≤ yTp (yCl 1 ws cs).1 ∧ yTp (yCl 1 ws cs).1 ≤ 12 := by
                      have := qi
                      unfold yIc at this
                      rwa [Bool.and_eq_true, Nat.ble_eq, Nat.ble_eq] at this
                    obtain ⟨vv, w', ew⟩ := yTp_c (ws := (yCl 1 ws cs).1) rfl (by omega)
                    generalize hop' : yTp (yCl 1 ws cs).1 = op at *
                    generalize hcs : (yCl 1 ws cs).2 = dd at *
                    rw [ew] at x5 x6 y1 y2 y3 y5 ⊢
                    rw [List.length_cons] at y2
                    have n0 : yNb ((op, vv) :: w') = yNb w' := by show (if 15 ≤ op then 1 else 0) + yNb w' = _; rw [if_neg (by omega), Nat.zero_add]
                    have w0 : yWt ((op, vv) :: w') = 1 + yWt w' := by show (if 15 ≤ op then 0 else 1) + yWt w' = _; rw [if_neg (by omega)]
                    obtain ⟨M2, s1, s2, s3⟩ := says_g x4 (by omega) op 0
                    have W2 := x5.fr s3 (fun c i z => by omega)
                    have o2 : Ou (fun c i => c = 280 ∧ (i = 17 ∨ i = 19)) M2 (wI (wI M2 280 19 ((M2.1 280 19) - (1 : Int32))) 280 17 ((M2.1 280 17) + (1 : Int32))) := ((Ou.rf _ _).wI (by omega)).wI (by omega)
                    obtain ⟨M3, s4, s5, s6⟩ := holds_g ((pop_w W2).fr (M' := wI (wI M2 280 19 ((M2.1 280 19) - (1 : Int32))) 280 17 ((M2.1 280 17) + (1 : Int32))) (s := fun c i => c = 280 ∧ i = 17) ((Ou.rf _ _).wI (by omega)) (fun c i z => by omega)) (by omega) 16 (dd.length + 1)
                    obtain ⟨M4, s7, s8, s9⟩ := says_g ((s2.fr o2 (fun c i z => by omega)).fr s6 (fun c i z => by omega)) (by rw [List.length_append, List.length_singleton]; omega) 13 0
                    have oo : Ou (fun c i => (c = 280 ∧ (i = 14 ∨ i = 17 ∨ i = 18 ∨ i = 19)) ∨ c = 290 ∨ c = 291) M1 (wI M4 280 14 ((M4.1 280 14) + (1 : Int32))) := ((((s3.mono (fun c i z => by omega)).tr (o2.mono (fun c i z => by omega))).tr (s6.mono (fun c i z => by omega))).tr (s9.mono (fun c i z => by omega))).wI (by omega)
                    have e14 : M4.1 280 14 = nI p := by rw [s9.1 280 14 (by omega), s6.1 280 14 (by omega), o2.1 280 14 (by omega), s3.1 280 14 (by omega)]; exact x1
                    have e17 : M4.1 280 17 = nI (o + 1) := by rw [s9.1 280 17 (by omega), s6.1 280 17 (by omega), wI_1, if_pos ⟨rfl, rfl⟩, s3.1 280 17 (by omega), x3, nI_1]
                    rw [List.append_assoc] at s8
                    obtain ⟨r, M5, z1, z2, z3⟩ := toA (o + 1) ((16, dd.length + 1) :: w') (dd ++ [(op, 0), (13, 0)]) _ hlt (rSt_m c2' oo (fun c i z => by omega) (by rw [wI_1, if_pos ⟨rfl, rfl⟩, e14, nI_1]) (by rw [wI_1, if_neg (by omega)]; exact e17) (s8.fr (s := fun c i => c = 280 ∧ i = 14) ((Ou.rf _ _).wI (by omega)) (fun c i z => by omega)) ((s5.fr s9 (fun c i z => by omega)).fr (s := fun c i => c = 280 ∧ i = 14) ((Ou.rf _ _).wI (by omega)) (fun c i z => by omega)) ⟨by show o + 1 = 1 + yNb w'; omega, by rw [List.length_cons]; omega, by show (dd ++ [(op, 0), (13, 0)]).length + (0 + yWt w') ≤ p + 1; rw [List.length_append]; simp only [List.length_cons, List.length_nil]; omega, by omega, fun t ht => by
                      rcases List.mem_cons.mp ht with rfl | ht
                      · exact ⟨by show 3 ≤ 16; omega, by show 16 ≤ 17; omega, by show dd.length + 1 < 1000; omega, fun _ => by show dd.length + 1 < _; rw [List.length_append]; simp only [List.length_cons, List.length_nil]; omega⟩
                      · obtain ⟨a1, a2, a3, a4⟩ := y5 t (List.mem_cons_of_mem _ ht)
                        exact ⟨a1, a2, a3, fun z => by have := a4 z; rw [List.length_append]; omega⟩⟩) (c3.tr (oo.mono (fun c i z => by unfold rpR; omega)))
                    refine ⟨r, M5, ?_, z2, z3⟩
                    show ob (ob (qmd_says (nI op) (nI 0) M1) _) _ = _
                    rw [s1, ob_s, s2.1, List.length_append, List.length_singleton]
                    show ob (ob (qmd_holds (nI 16) (nI (dd.length + 1)) _) _) _ = _
                    rw [s4, ob_s]
                    show ob (ob (qmd_says (nI 13) (nI 0) M3) _) _ = _
                    rw [s7, ob_s, ob_s, if_neg (by decide)]
                    exact z1
                · rw [if_neg qi, if_neg qi, if_pos rfl]
                  obtain ⟨r, M2, z1, z2, z3⟩ := rOut_w (n := n) (M := M) (k := 1) x1
                  refine ⟨r, M2, ?_, z2, c3.tr z3⟩
                  show ob (zw (nI 1) M1) _ = _
                  rw [z1, ob_s, z2.1, if_pos rfl]
              · rw [if_neg q63]
                by_cases q58 : sg p = 58
                · rw [if_pos q58]
                  unfold yRt
                  rw [hcm]
                  show ∃ r M', _ ∧ rOut n r M' (if sg p = 63 then _ else if yIc (yCl 1 ws cs).1 = true then _ else _) ∧ _
                  rw [if_neg q63]
                  unfold qmd_turns
                  rw [c1, ob_s, c4, ob_s, c5, ob_s]
                  by_cases qi : yIc (yCl 1 ws cs).1 = true
                  · rw [if_pos qi, if_pos qi, if_neg (by decide)]
                    obtain ⟨r, M2, z1, z2, z3⟩ := rOut_w (n := n) (M := M) (k := 1) x1
                    refine ⟨r, M2, ?_, z2, c3.tr z3⟩
                    show ob (zw (nI 1) M1) _ = _
                    rw [z1, ob_s, z2.1, if_pos rfl]
                  · rw [if_neg qi, if_neg qi, if_pos rfl]
                    obtain ⟨M2, d1, d2, d3, d4⟩ := land_g c2'
                    have d2' := d2
                    obtain ⟨u1, u2, u3, u4, u5, u6⟩ := d2
                    obtain ⟨v1, v2, v3, v4, v5⟩ := id u6
                    rw [d1, ob_s, d4, ob_s, itv (K := (16 : Int32)) u6.w2 16 (by omega) rfl]
                    unfold yRu
                    rw [if_neg q41, if_pos q58]
                    by_cases q16 : yTp (yLn (yCl 1 ws cs).1 (yCl 1 ws cs).2 o).1 = 16
                    · rw [if_pos q16, if_pos q16]
                      obtain ⟨vv, w', ew⟩ := yTp_c q16 (by omega)
                      generalize hdd : (yLn (yCl 1 ws cs).1 (yCl 1 ws cs).2 o).2.1 = dd at *
                      generalize hoo : (yLn (yCl 1 ws cs).1 (yCl 1 ws cs).2 o).2.2 = oo at *
                      rw [ew] at u5 v1 v2 v3 v5 ⊢
                      rw [List.length_cons] at v2
                      obtain ⟨b1, b2, b3, b4⟩ := v5 (16, vv) (by simp)
                      have b5 : vv < dd.length := b4 (Nat.le_refl 16)
                      have n0 : yNb ((16, vv) :: w') = 1 + yNb w' := rfl
                      have w0 : yWt ((16, vv) :: w') = 0 + yWt w' := rfl
                      have o1 : Ou (fun c i => c = 280 ∧ i = 19) M2 (wI M2 280 19 ((M2.1 280 19) - (1 : Int32))) := (Ou.rf _ _).wI ⟨rfl, rfl⟩
                      obtain ⟨M3, s4, s5, s6⟩ := holds_g (pop_w u5) (by omega) 17 dd.length
                      obtain ⟨M4, s7, s8, s9⟩ := says_g ((u4.fr o1 (fun c i z => by omega)).fr s6 (fun c i z => by omega)) (by omega) 14 0
                      have e19 : M2.1 280 19 = nI (w'.length + 1) := by rw [u5.1, List.length_cons]
                      have z17 : (M2.1 291 w'.length) - (M2.1 291 w'.length) / (1048576 : Int32) * (1048576 : Int32) = nI vv := by
                        rw [u5.2 w'.length [] (16, vv) w' rfl rfl]; exact eU_v (by show 16 < 2000; omega) (by show vv < 1048576; omega)
                      have e18 : M4.1 280 18 = nI (dd.length + 1) := by rw [s8.1, List.length_append, List.length_singleton]
                      have e14 : M4.1 280 14 = nI p := by rw [s9.1 280 14 (by omega), s6.1 280 14 (by omega), o1.1 280 14 (by omega)]; exact u1
                      have e17 : M4.1 280 17 = nI oo := by rw [s9.1 280 17 (by omega), s6.1 280 17 (by omega), o1.1 280 17 (by omega)]; exact u3
                      have ofin : Ou (fun c i => (c = 280 ∧ (i = 14 ∨ i = 18 ∨ i = 19)) ∨ c = 290 ∨ c = 291) M2 (wI (wI M4 290 vv (nI (1048576 * 13 + (dd.length + 1)))) 280 14 (nI (p + 1))) := ((((o1.mono (fun c i z => by omega)).tr (s6.mono (fun c i z => by omega))).tr (s9.mono (fun c i z => by omega))).wI (by omega)).wI (by omega)
                      have gA : rA (wI (wI M4 290 vv (nI (1048576 * 13 + (dd.length + 1)))) 280 14 (nI (p + 1))) ((dd ++ [(14, 0)]).set vv (13, dd.length + 1)) := by
                        refine ⟨by rw [wI_1, if_neg (by omega), wI_1, if_neg (by omega), List.length_set]; exact s8.1, fun i t hi => ?_⟩
                        rw [wI_1, if_neg (by omega), wI_1]
                        rw [List.getElem?_set] at hi
                        by_cases z : vv = i
                        · subst z
                          rw [if_pos rfl, if_pos (by rw [List.length_append]; omega)] at hi
                          obtain rfl := Option.some.inj hi
                          rw [if_pos ⟨rfl, rfl⟩]
                          rfl
                        · rw [if_neg z] at hi
                          rw [if_neg (by omega)]
                          exact s8.2 i t hi
                      obtain ⟨r, M5, z1, z2, z3⟩ := toA oo ((17, dd.length) :: w') ((dd ++ [(14, 0)]).set vv (13, dd.length + 1)) _ hlt (rSt_m d2' ofin (fun c i z => by omega) (by rw [wI_1, if_pos ⟨rfl, rfl⟩]) (by rw [wI_1, if_neg (by omega), wI_1, if_neg (by omega)]; exact e17) gA ((s5.fr s9 (fun c i z => by omega)).fr (s := fun c i => c = 290 ∨ (c = 280 ∧ i = 14)) (((Ou.rf _ _).wI (by omega)).wI (by omega)) (fun c i z => by omega)) ⟨by show oo = 1 + yNb w'; omega, by rw [List.length_cons]; omega, by show ((dd ++ [(14, 0)]).set vv (13, dd.length + 1)).length + (0 + yWt w') ≤ p + 1; rw [List.length_set, List.length_append, List.length_singleton]; omega, by omega, fun t ht => by
                        rcases List.mem_cons.mp ht with rfl | ht
                        · exact ⟨by show 3 ≤ 17; omega, by show 17 ≤ 17; omega, by show dd.length < 1000; omega, fun _ => by show dd.length < _; rw [List.length_set, List.length_append, List.length_singleton]; omega⟩
                        · obtain ⟨a1, a2, a3, a4⟩ := v5 t (List.mem_cons_of_mem _ ht)
                          exact ⟨a1, a2, a3, fun z => by have := a4 z; rw [List.length_set, List.length_append]; omega⟩⟩) ((c3.tr d3).tr (ofin.mono (fun c i z => by unfold rpR; omega)))
                      refine ⟨r, M5, ?_, z2, z3⟩
                      rw [e19, nI_m1 (by omega), Nat.add_sub_cancel, ck_ib (by omega) (by omega), ck_t, nI_cl (by omega), z17, ltt_s, u4.1]
                      rw [e19, nI_m1 (by omega), Nat.add_sub_cancel] at s4
                      show ob (ob (qmd_holds (nI 17) (nI dd.length) _) _) _ = _
                      rw [s4, ob_s]
                      show ob (ob (qmd_says (nI 14) (nI 0) M3) _) _ = _
                      rw [s7, ob_s, ck_ib (by omega) (by omega), ck_t, nI_cl (by omega), e18, show (13631488 : Int32) = nI (1048576 * 13) from rfl, nI_add, e14, nI_1, ob_s, if_neg (by decide)]
                      exact z1
                    · rw [if_neg q16, if_neg q16]
                      obtain ⟨r, M3, z1, z2, z3⟩ := rOut_w (n := n) (M := M) (k := 1) u1
                      refine ⟨r, M3, ?_, z2, (c3.tr d3).tr z3⟩
                      show ob (zw (nI 1) M2) _ = _
                      rw [z1, ob_s, z2.1, if_pos rfl]
                · rw [if_neg q58]
                  exact endK M rfl hop hcm q63 q58
/-- a formula read whole -/
theorem readsFormula_g (hE : ∀ p, n ≤ p → sg p = 999) (h256 : ∀ p, p < n → sg p < 256) {M : SM} {p : Nat} {cs : yL} (ht : tR M sg n) (hp : p ≤ n) (h1 : M.1 280 14 = nI p) (h2 : M.1 280 15 = nI n) (hA : rA M cs) (hl : cs.length ≤ p) : ∃ r M', qmd_readsFormula M = some (r, M') ∧ rOut n r M' (yRr sg n true p 0 [] cs) ∧ Ou rpR M M' := by
  have hn := ht.1
  have o1 : Ou (fun c i => c = 280 ∧ (i = 17 ∨ i = 19)) M (wI (wI M 280 17 (0 : Int32)) 280 19 (0 : Int32)) := ((Ou.rf _ _).wI (by omega)).wI (by omega)
  have o2 : Ou rpR M (wI (wI M 280 17 (0 : Int32)) 280 19 (0 : Int32)) := o1.mono (fun c i z => by unfold rpR; omega)
  have hr : rSt (wI (wI M 280 17 (0 : Int32)) 280 19 (0 : Int32)) n p 0 [] cs := by
    refine ⟨by rw [o1.1 280 14 (by omega)]; exact h1, by rw [o1.1 280 15 (by omega)]; exact h2, by rw [wI_1, if_neg (by omega), wI_1, if_pos ⟨rfl, rfl⟩]; rfl, hA.fr o1 (fun c i z => by omega), ⟨by rw [wI_1, if_pos ⟨rfl, rfl⟩]; rfl, fun i u t v e hi => ?_⟩, ⟨rfl, by simp, by show cs.length + 0 ≤ p; omega, by omega, fun t ht => by simp at ht⟩⟩
    cases u <;> cases e
  obtain ⟨j1, -⟩ := run_g hE h256 (n + 1) p (by omega) hp
  obtain ⟨r, M', z1, z2, z3⟩ := j1 999999 FU _ 0 [] cs (by omega) (by unfold FU; omega) (ht.fr o2) hr
  exact ⟨r, M', by rw [readsFormula_e]; exact z1, z2, o2.tr z3⟩
end
