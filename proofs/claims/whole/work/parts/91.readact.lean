/-! an act read, on either side -/
def yAl (c : Nat) : Bool := Nat.beq c 87 || Nat.beq c 82 || Nat.beq c 67 || Nat.beq c 84
theorem yAl_iff {c : Nat} : yAl c = true ↔ c = 87 ∨ c = 82 ∨ c = 67 ∨ c = 84 := by
  unfold yAl
  simp only [Bool.or_eq_true]
  constructor
  · rintro (((h | h) | h) | h)
    · exact Or.inl (Nat.eq_of_beq_eq_true h)
    · exact Or.inr (Or.inl (Nat.eq_of_beq_eq_true h))
    · exact Or.inr (Or.inr (Or.inl (Nat.eq_of_beq_eq_true h)))
    · exact Or.inr (Or.inr (Or.inr (Nat.eq_of_beq_eq_true h)))
  · rintro (rfl | rfl | rfl | rfl) <;> decide
def yAc (sg : Nat → Nat) (n : Nat) : (Nat × Nat) ⊕ yL :=
  if yAl (sg 0) = true then (if sg 1 = 94 ∨ sg 1 = 95 then (match yCh sg n 10 0 2 with
    | Sum.inl f => Sum.inl f
    | Sum.inr r => if r.1 < n then Sum.inl (1, r.1) else Sum.inr r.2) else Sum.inl (1, 1)) else Sum.inl (1, 0)
def s3a (s c i : Nat) : Prop := (c = 3 ∧ 1 ≤ i ∧ i ≤ 5) ∨ (s ≤ c ∧ c < s + 8)
/-- the rest of an act's reading, its letter and sign being read -/
def zAT (x4 : Int32) (M14 : SM) : Option (Int32 × SM) :=
  ck (decide (¬ (M14.1 3 1) < 0) && ((kc 336 (Int32.toNatClampNeg (M14.1 3 1)) 8 && (decide (x4 = 0) || decide (x4 = 1))) && true)) (
              ob ((qrd_chN 10) (0 : Int32) (wI M14 (Int32.toNatClampNeg (M14.1 3 1)) 11 x4)) (fun _ M16 =>
              ck (decide (¬ (M16.1 3 1) < 0) && true) (
              ck (kc 336 (Int32.toNatClampNeg (M16.1 3 1)) 8) (ob (qsh_end (Int32.toNatClampNeg (M16.1 3 1)) M16) (fun _ M21 =>
              ob (qrd_expectEnd M21) (fun _ M24 =>
              ob (qrd_answer M24) (fun r27 M28 =>
              some (r27, M28))))))))
def zAS (M7 : SM) : Option (Int32 × SM) :=
    ob (qrd_next M7) (fun r8 M9 =>
      jn (fun (t11 : Int32) (M12 : SM) =>
        jn (fun (x4_13 : Int32) (M14 : SM) => zAT x4_13 M14) (fun j30 =>
          jn (fun (x4_31 : Int32) (M32 : SM) =>
            j30 x4_31 (wI M32 3 3 ((M32.1 3 3) + (1 : Int32)))) (fun j33 =>
          if t11 = 0 then
          (ob (qrd_next M12) (fun r34 M35 =>
            if r34 = (95 : Int32) then
            (j33 t11 M35) else
            (ob (qrd_fail (1 : Int32) M35) (fun _ M37 =>
              j30 t11 M37)))) else
          (j33 t11 M12)))) (fun j42 =>
      if r8 = (94 : Int32) then
      (j42 (1 : Int32) M9) else
      (j42 (0 : Int32) M9)))
theorem readAct_e (s : Nat) (x2 : Int32) (M : SM) : qrd_readAct s x2 M = ob (qrd_start s x2 M) (fun _ M1 =>
  ob (qrd_next M1) (fun r4 M5 =>
  jn (fun (x3_45 : Int32) (M46 : SM) =>
    ck (decide (¬ (M46.1 3 1) < 0) && true) (
      ck (kc 336 (Int32.toNatClampNeg (M46.1 3 1)) 8) (ob (qsh_begin (Int32.toNatClampNeg (M46.1 3 1)) (x3_45 - (65 : Int32)) (M46.1 3 3) M46) (fun _ M49 =>
      zAS (wI M49 3 3 ((M49.1 3 3) + (1 : Int32))))))) (fun j52 =>
  if r4 = (87 : Int32) then
  (j52 r4 M5) else
  (if r4 = (82 : Int32) then
    (j52 r4 M5) else
    (if r4 = (67 : Int32) then
      (j52 r4 M5) else
      (if r4 = (84 : Int32) then
        (j52 r4 M5) else
        (ob (qrd_fail (1 : Int32) M5) (fun _ M53 =>
          zAS M53)))))))) := rfl
theorem ite_al {α : Type} {c : Nat} (x y : α) : (if c = 87 then x else if c = 82 then x else if c = 67 then x else if c = 84 then x else y) = if yAl c = true then x else y := by
  by_cases q : yAl c = true
  · rw [if_pos q]
    rcases yAl_iff.mp q with h | h | h | h
    · rw [if_pos h]
    · rw [if_neg (by omega), if_pos h]
    · rw [if_neg (by omega), if_neg (by omega), if_pos h]
    · rw [if_neg (by omega), if_neg (by omega), if_neg (by omega), if_pos h]
  · rw [if_neg q, if_neg (fun z => q (yAl_iff.mpr (Or.inl z))), if_neg (fun z => q (yAl_iff.mpr (Or.inr (Or.inl z)))), if_neg (fun z => q (yAl_iff.mpr (Or.inr (Or.inr (Or.inl z))))), if_neg (fun z => q (yAl_iff.mpr (Or.inr (Or.inr (Or.inr z)))))]
section
variable {s n : Nat} {sg : Nat → Nat}
theorem rdF_a {s c i : Nat} (h : rdF s 0 c i) : s3a s c i := by unfold rdF at h; unfold s3a; omega
theorem end_fl' {M : SM} {g : Nat × Nat} (h : cFl M s n g) : ob (qrd_expectEnd M) (fun _ M24 => ob (qrd_answer M24) (fun r27 M28 => some (r27, M28))) = some (((-1000 : Int32) * nI g.1) - nI g.2, M) := by
  rw [end_fl h, ob_s]
  unfold qrd_answer
  rw [if_neg (fault_ne h.2.2.1.1 h.2.2.1.2.1 h.2.2.1.2.2), ob_s, h.2.2.1.2.2, h.2.2.2]
theorem zAT_f (hN : yEn sg n s 60 0) {M : SM} {k q : Nat} (h : cF M s n 60 k q 0) {x4 : Int32} (hx : x4 = 0 ∨ x4 = 1) : ∃ M' : SM, zAT x4 M = some (((-1000 : Int32) * nI k) - nI q, M') ∧ Ou (s3a s) M M' := by
  have hK := hN.1
  have hs := hK.1
  have hs2 := hK.2.1
  obtain ⟨G1, G2⟩ := ch10_g hN
  have hbx : (decide (x4 = 0) || decide (x4 = 1)) = true := by
    rcases hx with rfl | rfl <;> decide
  have o0 : Ou (s3a s) M (wI M s 11 x4) := (Ou.rf _ _).wI (by unfold s3a; omega)
  have h0 : cF (wI M s 11 x4) s n 60 k q 0 := by
    obtain ⟨h1, h2, ⟨h3, h4, h5⟩, h6, ⟨m, h7, h8⟩, h9⟩ := h
    refine ⟨?_, ?_, ⟨h3, h4, ?_⟩, ?_, ⟨m, h7, ?_⟩, ?_⟩
    · rw [wI_1, if_neg (by omega)]; exact h1
    · rw [wI_1, if_neg (by omega)]; exact h2
    · rw [wI_1, if_neg (by omega)]; exact h5
    · rw [wI_1, if_neg (by omega)]; exact h6
    · rw [wI_1, if_neg (by omega)]; exact h8
    · rw [wI_1, if_neg (by omega)]; exact h9
  obtain ⟨M1, x1, x2, x3⟩ := G2 _ k q h0
  obtain ⟨M2, y1, y2, y3⟩ := end_g (m := 0) hK x2.2.2.2.2.2 (by omega)
  have hfl : cFl M2 s n (k, q) := by
    have x4' := x2.fl
    exact ⟨by rw [y3, if_neg (by omega), if_neg (by omega)]; exact x4'.1, by rw [y3, if_neg (by omega), if_neg (by omega)]; exact x4'.2.1, ⟨x4'.2.2.1.1, x4'.2.2.1.2.1, by rw [y3, if_neg (by omega), if_neg (by omega)]; exact x4'.2.2.1.2.2⟩, by rw [y3, if_neg (by omega), if_neg (by omega)]; exact x4'.2.2.2⟩
  refine ⟨M2, ?_, (o0.tr (x3.mono (fun c i z => rdF_a z))).tr ⟨fun c i z => by unfold s3a at z; rw [y3, if_neg (by omega), if_neg (by omega)], y2⟩⟩
  unfold zAT
  rw [h.1, nI_cl (by omega), ckb (and_i (decide_eq_true (nI_lt0 (by omega))) (and_i (and_i hK.kc hbx) rfl)), x1, ob_s, sh_ck hK x2.1 (fun s' => ob (qsh_end s' M1) (fun _ M21 => ob (qrd_expectEnd M21) (fun _ M24 => ob (qrd_answer M24) (fun r27 M28 => some (r27, M28))))), y1, ob_s]
  exact end_fl' hfl
theorem readAct_g (hK : shK s 60) {M : SM} {T : Nat} (hT : M.1 1 1 = nI T) (hT2 : T ≤ 200) (hn : n ≤ T) (hn60 : n ≤ 60) (hn1 : 1 ≤ n) :
    ∃ (r : Int32) (M1 : SM), qrd_readAct s (nI n) M = some (r, M1) ∧ Ou (s3a s) M M1 ∧ match yAc (sgF M n) n with
      | Sum.inl g => r = ((-1000 : Int32) * nI g.1) - nI g.2 ∧ ¬ r = 0
      | Sum.inr st => r = 0 ∧ stA M1 s st ∧ M1.1 s 3 = nI 1 ∧ M1.1 (s + 3) 0 = nI (sgF M n 0 - 65) ∧ M1.1 (s + 5) 0 = nI st.length ∧ M1.1 s 11 = (if sgF M n 1 = 94 then 1 else 0) ∧ st.length ≤ 60 := by
  have hs := hK.1
  have hE := sgF_E M n
  have h2 := sgF_2 M n
  generalize hsg : sgF M n = sg at hE h2 ⊢
  have k2 := hK.2.1
  have hN : yEn sg n s 60 0 := ⟨hK, hn60, by omega, hE, h2⟩
  generalize hM0 : wI (wI (wI (wI (wI (wI (wI M 3 1 (nI s)) s 2 0) s 3 0) 3 2 (nI n)) 3 3 0) 3 4 0) 3 5 0 = M0
  have hst : qrd_start s (nI n) M = some ((), M0) := by
    unfold qrd_start qsh_empty
    have hps : ¬ Int32.ofNat s < 0 := nI_lt0 (n := s) (by omega)
    have hcl : Int32.toNatClampNeg (Int32.ofNat s) = s := nI_cl (n := s) (by omega)
    rw [ckb (b := (Nat.blt s 1000 && (decide (¬ Int32.ofNat s < 0) && true))) (and_i (blt_iff.mpr (by omega)) (and_i (decide_eq_true hps) rfl)), hcl, ckb hK.kc, ckb (and_i hK.kc (and_i hK.kc rfl)), ob_s, ← hM0]
    rfl
  have g : ∀ c i, M0.1 c i = if c = 3 ∧ i = 5 then 0 else if c = 3 ∧ i = 4 then 0 else if c = 3 ∧ i = 3 then 0 else if c = 3 ∧ i = 2 then nI n else if c = s ∧ i = 3 then 0 else if c = s ∧ i = 2 then 0 else if c = 3 ∧ i = 1 then nI s else M.1 c i := fun c i => by rw [← hM0, wI_1, wI_1, wI_1, wI_1, wI_1, wI_1, wI_1]
  have o0 : Ou (s3a s) M M0 := ⟨fun c i q => by unfold s3a at q; rw [g, if_neg (by omega), if_neg (by omega), if_neg (by omega), if_neg (by omega), if_neg (by omega), if_neg (by omega), if_neg (by omega)], by rw [← hM0]; rfl⟩
  have ht0 : tE M0 sg n := ⟨⟨T, by rw [o0.1 1 1 (by unfold s3a; omega)]; exact hT, hT2, hn⟩, fun p hp => by rw [o0.1 2 p (by unfold s3a; omega), ← hsg]; exact sgF_v M hp⟩
  have tfr : ∀ M' : SM, Ou (s3a s) M0 M' → tE M' sg n := fun M' o => by
    obtain ⟨⟨T, h1, h2, h3⟩, h4⟩ := ht0
    exact ⟨⟨T, by rw [o.1 1 1 (by unfold s3a; omega)]; exact h1, h2, h3⟩, fun p hp => by rw [o.1 2 p (by unfold s3a; omega)]; exact h4 p hp⟩
  have hc0 : cSh M0 s n 0 := ⟨by rw [g, if_neg (by omega), if_neg (by omega), if_neg (by omega), if_neg (by omega), if_neg (by omega), if_neg (by omega), if_pos ⟨rfl, rfl⟩], by rw [g, if_neg (by omega), if_neg (by omega), if_neg (by omega), if_pos ⟨rfl, rfl⟩], by rw [g, if_neg (by omega), if_neg (by omega), if_pos ⟨rfl, rfl⟩]; rfl, by rw [g, if_neg (by omega), if_pos ⟨rfl, rfl⟩]⟩
  have hm0 : cM M0 s [] := ⟨⟨by rw [g, if_neg (by omega), if_neg (by omega), if_neg (by omega), if_neg (by omega), if_neg (by omega), if_pos ⟨rfl, rfl⟩]; rfl, fun i t hi => by cases hi⟩, by rw [g, if_neg (by omega), if_neg (by omega), if_neg (by omega), if_neg (by omega), if_pos ⟨rfl, rfl⟩]; rfl, fun k t hk => by cases hk⟩
  have ok0 := hN.ok 0
  rw [readAct_e, hst, ob_s, next_g hE h2 ht0 (by omega) hc0, ob_s, jn_ap, iSg (K := (87 : Int32)) ok0 87 (by omega) rfl, iSg (K := (82 : Int32)) ok0 82 (by omega) rfl, iSg (K := (67 : Int32)) ok0 67 (by omega) rfl, iSg (K := (84 : Int32)) ok0 84 (by omega) rfl, ite_al]
  unfold yAc
  -- the second sign, something having gone wrong
  have bad2 : ∀ (M' : SM) (k q : Nat), cF M' s n 60 k q 0 → Ou (s3a s) M0 M' → q ≤ 200 → ∃ (r : Int32) (M1 : SM), zAS M' = some (r, M1) ∧ Ou (s3a s) M M1 ∧ r = ((-1000 : Int32) * nI k) - nI q ∧ ¬ r = 0 := fun M' k q hF o hq => by
    obtain ⟨M1, x1, x2⟩ := zAT_f hN hF (x4 := 0) (Or.inl rfl)
    refine ⟨_, M1, ?_, (o0.tr o).tr x2, rfl, nzF k (by have := hF.2.2.1.2.1; omega) q (by omega) hF.2.2.1.1⟩
    unfold zAS
    rw [next_f hF, ob_s]
    simp only [jn_ap]
    rw [iSg (K := (94 : Int32)) (Or.inl rfl) 94 (by omega) rfl, if_neg (by omega), if_pos trivial, next_f hF, ob_s, iSg (K := (95 : Int32)) (Or.inl rfl) 95 (by omega) rfl, if_neg (by omega), fail_f hF, ob_s]
    exact x1
  by_cases q1 : yAl (sg 0) = true
  · have hal := yAl_iff.mp q1
    have e65 : sv (sg 0) - (65 : Int32) = nI (sg 0 - 65) := by rw [sv_n (by omega), show (65 : Int32) = nI 65 from rfl, nI_subN (by omega)]
    rw [if_pos q1, if_pos q1]
    dsimp only
    rw [sh_ck hK hc0.1 (fun s' => ob (qsh_begin s' (sv (sg 0) - (65 : Int32)) (M0.1 3 3) M0) _), hc0.2.2.1, e65]
    obtain ⟨M1, b1, b2, b3⟩ := begin_g hK hm0 (by simp) (nI (sg 0 - 65)) (nI 0)
    rw [b1, ob_s]
    have o1 : Ou (s3a s) M0 M1 := ⟨fun c i q => by unfold s3a at q; rw [b3, if_neg (by omega), if_neg (by omega), if_neg (by omega)], b2⟩
    have hc1 : cS M1 s n 0 0 [] [] := by
      obtain ⟨a1, a2, a3, a4⟩ := hc0
      obtain ⟨⟨d1, d2⟩, d3, d4⟩ := hm0
      refine ⟨⟨?_, ?_, ?_, ?_⟩, ⟨?_, fun i t hi => by cases hi⟩, ?_, ?_⟩
      · rw [b3, if_neg (by omega), if_neg (by omega), if_neg (by omega)]; exact a1
      · rw [b3, if_neg (by omega), if_neg (by omega), if_neg (by omega)]; exact a2
      · rw [b3, if_neg (by omega), if_neg (by omega), if_neg (by omega)]; exact a3
      · rw [b3, if_neg (by omega), if_neg (by omega), if_neg (by omega)]; exact a4
      · rw [b3, if_neg (by omega), if_neg (by omega), if_neg (by omega)]; exact d1
      · rw [b3, if_neg (by omega), if_neg (by omega), if_neg (by omega)]; exact d3
      · rw [b3, if_pos ⟨rfl, rfl⟩]; rfl
    obtain ⟨g1, g2⟩ := at_g hs hc1
    have o2 : Ou (s3a s) M0 (wI M1 3 3 ((M1.1 3 3) + (1 : Int32))) := o1.tr (g2.mono (fun c i q => rdF_a q))
    generalize hM2 : wI M1 3 3 ((M1.1 3 3) + (1 : Int32)) = M2 at g1 g2 o2 ⊢
    have ok1 := hN.ok 1
    have nx1 := next_g hE h2 (tfr M2 o2) hn1 g1.1
    by_cases q2 : sg 1 = 94 ∨ sg 1 = 95
    · rw [if_pos q2]
      have hlt1 : 1 < n := y_lt hE (by omega)
      obtain ⟨u1, u2⟩ := at_g hs g1
      have o3 : Ou (s3a s) M0 (wI M2 3 3 ((M2.1 3 3) + (1 : Int32))) := o2.tr (u2.mono (fun c i q => rdF_a q))
      generalize hM3 : wI M2 3 3 ((M2.1 3 3) + (1 : Int32)) = M3 at u1 u2 o3
      have goT : ∃ x4 : Int32, zAS M2 = zAT x4 M3 ∧ (x4 = 0 ∨ x4 = 1) ∧ x4 = (if sg 1 = 94 then 1 else 0) := by
        unfold zAS
        rw [nx1, ob_s]
        simp only [jn_ap]
        rw [iSg (K := (94 : Int32)) ok1 94 (by omega) rfl]
        by_cases q94 : sg 1 = 94
        · rw [if_pos q94, if_neg (by decide), hM3]
          exact ⟨1, rfl, Or.inr rfl, by rw [if_pos q94]⟩
        · rw [if_neg q94, if_pos trivial, nx1, ob_s, iSg (K := (95 : Int32)) ok1 95 (by omega) rfl, if_pos (by omega), hM3]
          exact ⟨0, rfl, Or.inl rfl, by rw [if_neg q94]⟩
      obtain ⟨x4, e1, e2, e3⟩ := goT
      rw [e1]
      have hbx : (decide (x4 = 0) || decide (x4 = 1)) = true := by
        rcases e2 with rfl | rfl <;> decide
      have o4 : Ou (s3a s) M0 (wI M3 s 11 x4) := o3.wI (by unfold s3a; omega)
      have hS4 : cS (wI M3 s 11 x4) s n 2 0 [] [] := by
        obtain ⟨⟨a1, a2, a3, a4⟩, ⟨d1, d2⟩, d3, d4⟩ := u1
        refine ⟨⟨?_, ?_, ?_, ?_⟩, ⟨?_, fun i t hi => by cases hi⟩, ?_, ?_⟩
        · rw [wI_1, if_neg (by omega)]; exact a1
        · rw [wI_1, if_neg (by omega)]; exact a2
        · rw [wI_1, if_neg (by omega)]; exact a3
        · rw [wI_1, if_neg (by omega)]; exact a4
        · rw [wI_1, if_neg (by omega)]; exact d1
        · rw [wI_1, if_neg (by omega)]; exact d3
        · rw [wI_1, if_neg (by omega)]; exact d4
      obtain ⟨G1, G2⟩ := ch10_g hN
      obtain ⟨c1, c2⟩ := G1 _ 2 [] [] (tfr _ o4) (by omega) (by simp) hS4
      unfold zAT
      rw [u1.1.1, nI_cl (by omega), ckb (and_i (decide_eq_true (nI_lt0 (by omega))) (and_i (and_i hK.kc hbx) rfl))]
      cases hch : yCh sg n 10 0 2 with
      | inl gg =>
        obtain ⟨M5, x1, x2, x3⟩ := c1 gg hch
        obtain ⟨M6, y1, y2, y3⟩ := end_g (m := 0) hK x2.2.2.2.2.2 (by omega)
        have hfl : cFl M6 s n gg := by
          have x4' := x2.fl
          exact ⟨by rw [y3, if_neg (by omega), if_neg (by omega)]; exact x4'.1, by rw [y3, if_neg (by omega), if_neg (by omega)]; exact x4'.2.1, ⟨x4'.2.2.1.1, x4'.2.2.1.2.1, by rw [y3, if_neg (by omega), if_neg (by omega)]; exact x4'.2.2.1.2.2⟩, by rw [y3, if_neg (by omega), if_neg (by omega)]; exact x4'.2.2.2⟩
        have hb := yCh_b hE 10 0 (by omega) (by omega) 2 (by omega) gg hch
        refine ⟨_, M6, ?_, ((o0.tr o4).tr (x3.mono (fun c i z => rdF_a z))).tr ⟨fun c i z => by unfold s3a at z; rw [y3, if_neg (by omega), if_neg (by omega)], y2⟩, rfl, nzF gg.1 (by have := hfl.2.2.1.2.1; omega) gg.2 (by omega) hfl.2.2.1.1⟩
        rw [x1, ob_s, sh_ck hK x2.1 (fun s' => ob (qsh_end s' M5) _), y1, ob_s]
        exact end_fl' hfl
      | inr r =>
        obtain ⟨M5, x1, x2, x3⟩ := c2 r hch
        obtain ⟨M6, y1, y2, y3⟩ := end_g (m := 0) hK x2.2.2.1 (by omega)
        obtain ⟨-, z2⟩ := yCh_S hE 10 0 (by omega) (by omega) 2 [] [] (by omega) yTL_nil rfl
        obtain ⟨z3, z4, -, -, code, -, -, z5, -⟩ := z2 r hch
        have hc6 : cSh M6 s n r.1 := ⟨by rw [y3, if_neg (by omega), if_neg (by omega)]; exact x2.1.1, by rw [y3, if_neg (by omega), if_neg (by omega)]; exact x2.1.2.1, by rw [y3, if_neg (by omega), if_neg (by omega)]; exact x2.1.2.2.1, by rw [y3, if_neg (by omega), if_neg (by omega)]; exact x2.1.2.2.2⟩
        obtain ⟨M7, w1, w2, w3⟩ := end_at z4 (by omega) hs hc6
        have oF : Ou (s3a s) M M7 := (((o0.tr o4).tr (x3.mono (fun c i z => rdF_a z))).tr ⟨fun c i z => by unfold s3a at z; rw [y3, if_neg (by omega), if_neg (by omega)], y2⟩).tr (w2.mono (fun c i z => by unfold rdA at z; unfold s3a; omega))
        dsimp only
        rw [x1, ob_s, sh_ck hK x2.1.1 (fun s' => ob (qsh_end s' M5) _), y1, ob_s, w1, ob_s]
        by_cases q5 : r.1 < n
        · rw [if_pos q5] at w3 ⊢
          refine ⟨_, M7, ?_, oF, rfl, nzF 1 (by omega) r.1 (by omega) (by omega)⟩
          unfold qrd_answer
          rw [if_neg (fault_ne w3.2.2.1.1 w3.2.2.1.2.1 w3.2.2.1.2.2), ob_s, w3.2.2.1.2.2, w3.2.2.2]
        · rw [if_neg q5] at w3 ⊢
          subst w3
          refine ⟨0, M7, ?_, oF, rfl, ⟨?_, fun i t hi => ?_⟩, by rw [y3, if_pos ⟨rfl, rfl⟩], ?_, ?_, ?_, by omega⟩
          · unfold qrd_answer
            rw [if_pos hc6.2.2.2, ob_s]
          · rw [y3, if_neg (by omega), if_neg (by omega)]; exact x2.2.1.1
          · rw [y3, if_neg (by omega), if_neg (by omega), y3, if_neg (by omega), if_neg (by omega)]; exact x2.2.1.2 i t hi
          · rw [y3, if_neg (by omega), if_neg (by omega), x3.1 (s + 3) 0 (by unfold rdF; omega), wI_1, if_neg (by omega), u2.1 (s + 3) 0 (by unfold rdF; omega), g2.1 (s + 3) 0 (by unfold rdF; omega), b3, if_neg (by omega), if_neg (by omega), if_pos ⟨rfl, rfl⟩]
          · rw [y3, if_neg (by omega), if_pos ⟨rfl, rfl⟩]; exact x2.2.1.1
          · rw [y3, if_neg (by omega), if_neg (by omega), x3.1 s 11 (by unfold rdF; omega), wI_1, if_pos ⟨rfl, rfl⟩]; exact e3
    · rw [if_neg q2]
      obtain ⟨M3, f1, f2, f3⟩ := fail_g (z := 60) g1 (by simp) hs (K := 1) (k := 1) rfl (by omega) (by omega)
      obtain ⟨M4, x1, x2⟩ := zAT_f hN f2 (x4 := 0) (Or.inl rfl)
      refine ⟨_, M4, ?_, ((o0.tr o2).tr (f3.mono (fun c i z => rdF_a z))).tr x2, rfl, nzF 1 (by omega) 1 (by omega) (by omega)⟩
      unfold zAS
      rw [nx1, ob_s]
      simp only [jn_ap]
      rw [iSg (K := (94 : Int32)) ok1 94 (by omega) rfl, if_neg (fun z => q2 (Or.inl z)), if_pos trivial, nx1, ob_s, iSg (K := (95 : Int32)) ok1 95 (by omega) rfl, if_neg (fun z => q2 (Or.inr z)), f1, ob_s]
      exact x1
  · rw [if_neg q1, if_neg q1]
    have hF : ∃ M' : SM, qrd_fail (1 : Int32) M0 = some ((), M') ∧ cF M' s n 60 1 0 0 ∧ Ou (s3a s) M0 M' := by
      obtain ⟨a1, a2, a3, a4⟩ := hc0
      refine ⟨wI (wI M0 3 4 (nI 1)) 3 5 (nI 0), ?_, ⟨?_, ?_, ⟨by omega, by omega, ?_⟩, ?_, ⟨0, by omega, ?_⟩, ?_⟩, ((Ou.rf _ _).wI (by unfold s3a; omega)).wI (by unfold s3a; omega)⟩
      · unfold qrd_fail; rw [if_pos a4, a3]; rfl
      · rw [wI_1, if_neg (by omega), wI_1, if_neg (by omega)]; exact a1
      · rw [wI_1, if_neg (by omega), wI_1, if_neg (by omega)]; exact a2
      · rw [wI_1, if_neg (by omega), wI_1, if_pos ⟨rfl, rfl⟩]
      · rw [wI_1, if_pos ⟨rfl, rfl⟩]
      · rw [wI_1, if_neg (by omega), wI_1, if_neg (by omega)]; exact hm0.1.1
      · rw [wI_1, if_neg (by omega), wI_1, if_neg (by omega)]; exact hm0.2.1
    obtain ⟨M1, f1, f2, f3⟩ := hF
    rw [f1, ob_s]
    exact bad2 M1 1 0 f2 f3 (by omega)
end
