/-! the tape -/
def taM (M : SM) : Nat := Int32.toNatClampNeg (M.1 1 1)
def I_tp (M : SM) : Prop := (M.1 1 1 = nI (taM M) ∧ taM M ≤ 200 ∧ M.1 280 13 = nI (taM M)) ∧ ∀ i, i < 200 → M.1 289 i = M.1 2 i
def sTp (c i : Nat) : Prop := (c = 1 ∧ i = 1) ∨ c = 2 ∨ (c = 280 ∧ i = 13) ∨ c = 289
theorem I_tp.fr {M M' : SM} (h : I_tp M) (e : Eq1 sTp M M') : I_tp M' := by
  have e0 : taM M' = taM M := by unfold taM; rw [e 1 1 (by unfold sTp; omega)]
  unfold I_tp
  rw [e0, e 1 1 (by unfold sTp; omega), e 280 13 (by unfold sTp; omega)]
  refine ⟨h.1, fun i hi => ?_⟩
  rw [e 289 i (by unfold sTp; omega), e 2 i (by unfold sTp; omega)]
  exact h.2 i hi
def by8 (x : Int32) : Int32 := Int8.toInt32 (Int32.toInt8 (Int8.toInt32 (Int32.toInt8 x)))
theorem by8_eq {x y : Int32} (h : ∀ i, i < 8 → bt x i = bt y i) : by8 x = by8 y := by
  have e : Int32.toInt8 x = Int32.toInt8 y := by
    apply Int8.toBitVec_inj.mp
    rw [Int32.toBitVec_toInt8, Int32.toBitVec_toInt8]
    apply BitVec.eq_of_getLsbD_eq
    intro i hi
    rw [BitVec.getLsbD_signExtend, BitVec.getLsbD_signExtend, if_pos (by omega), if_pos (by omega)]
    have := h i hi
    unfold bt at this
    rw [this]
  unfold by8
  rw [e]
theorem by8_sh (x : Int32) {n : Nat} (hn : n ≤ 24) : by8 (ushr x (nI n)) = by8 (x >>> (nI n &&& 31)) := by8_eq fun i hi => by
  unfold ushr
  rw [b_ushr n (by omega), b_sshr n (by omega) x (by omega), if_pos (by omega)]
/-- the four bytes of a number, the highest first -/
def yB (x : Int32) (k : Nat) : Int32 := if k = 0 then by8 (ushr x 24) else if k = 1 then by8 (ushr x 16) else if k = 2 then by8 (ushr x 8) else by8 x
def pB (c sc si n : Nat) (b : Int32) (M : SM) : SM := wI (wI M c n b) sc si (nI (n + 1))
def p4 (c sc si n : Nat) (x : Int32) (M : SM) : SM := pB c sc si (n + 3) (yB x 3) (pB c sc si (n + 2) (yB x 2) (pB c sc si (n + 1) (yB x 1) (pB c sc si n (yB x 0) M)))
theorem p4_2 (c sc si n : Nat) (x : Int32) (M : SM) : (p4 c sc si n x M).2 = M.2 := rfl
theorem p4_1 {c sc si n : Nat} {x : Int32} {M : SM} (hc : c ≠ sc) (c' i' : Nat) : (p4 c sc si n x M).1 c' i' = if c' = sc ∧ i' = si then nI (n + 4) else if c' = c ∧ n ≤ i' ∧ i' < n + 4 then yB x (i' - n) else M.1 c' i' := by
  unfold p4 pB
  simp only [wI_1]
  by_cases h1 : c' = sc ∧ i' = si
  · rw [if_pos h1, if_pos h1]
  · rw [if_neg h1, if_neg h1]
    by_cases h2 : c' = c
    · subst h2
      by_cases h3 : n ≤ i' ∧ i' < n + 4
      · rw [if_pos (show c' = c' ∧ n ≤ i' ∧ i' < n + 4 from ⟨rfl, h3⟩)]
        rcases (show i' = n ∨ i' = n + 1 ∨ i' = n + 2 ∨ i' = n + 3 by omega) with rfl | rfl | rfl | rfl
        · rw [if_neg (by omega), if_neg h1, if_neg (by omega), if_neg h1, if_neg (by omega), if_neg h1, if_pos ⟨rfl, rfl⟩, Nat.sub_self]
        · rw [if_neg (by omega), if_neg h1, if_neg (by omega), if_neg h1, if_pos ⟨rfl, rfl⟩, show n + 1 - n = 1 by omega, if_neg h1]
        · rw [if_neg (by omega), if_neg h1, if_pos ⟨rfl, rfl⟩, show n + 2 - n = 2 by omega, if_neg h1]
        · rw [if_pos ⟨rfl, rfl⟩, show n + 3 - n = 3 by omega, if_neg h1]
      · rw [if_neg (by omega), if_neg (by omega), if_neg h1, if_neg (by omega), if_neg h1, if_neg (by omega), if_neg h1, if_neg (by omega)]
    · rw [if_neg (by omega), if_neg (by omega), if_neg h1, if_neg (by omega), if_neg h1, if_neg (by omega), if_neg h1, if_neg (by omega)]
theorem putByte_g {M : SM} {n : Nat} (e : M.1 1 1 = nI n) (hn : n < 200) (x : Int32) : qtp_putByte x M = some ((), pB 2 1 1 n (by8 x) M) := by
  unfold qtp_putByte
  rw [e, if_neg (nI_lt0 (by omega)), if_pos (nl_200 (by omega)), ck_ib (by omega) (by omega), ck_t, nI_cl (by omega), nI_1]
  rfl
theorem pB_sz {c sc si n : Nat} {b : Int32} {M : SM} : (pB c sc si n b M).1 sc si = nI (n + 1) := by unfold pB; rw [wI_1, if_pos ⟨rfl, rfl⟩]
theorem putInt_g {M : SM} {n : Nat} (e : M.1 1 1 = nI n) (hn : n + 4 ≤ 200) (x : Int32) : qtp_putInt x M = some ((), p4 2 1 1 n x M) := by
  unfold qtp_putInt
  rw [putByte_g e (by omega), ob_s, putByte_g pB_sz (by omega), ob_s, putByte_g pB_sz (by omega), ob_s, putByte_g pB_sz (by omega), ob_s]
  rfl
theorem types_s (fu : Nat) (x k : Int32) (M : SM) : qmd_types_L2 (fu + 1) x k M = (if k < 0 then
    (some ((), M)) else
    (ck (ib 200 (M.1 280 13) && true) (
      qmd_types_L2 fu x (k + (-1 : Int32)) (wI (wI M 289 (Int32.toNatClampNeg (M.1 280 13)) (by8 (x >>> (((8 : Int32) * k) &&& 31)))) 280 13 ((M.1 280 13) + (1 : Int32)))))) := rfl
theorem types_1 {fu n j : Nat} {x : Int32} {M : SM} (e : M.1 280 13 = nI n) (hn : n < 200) (hj : j < 4) : qmd_types_L2 (fu + 1) x (nI j) M = qmd_types_L2 fu x (nI j + (-1 : Int32)) (pB 289 280 13 n (yB x (3 - j)) M) := by
  rw [types_s, if_neg (nI_lt0 (by omega)), e, ck_ib (by omega) (by omega), ck_t, nI_cl (by omega), nI_1]
  have : by8 (x >>> (((8 : Int32) * nI j) &&& 31)) = yB x (3 - j) := by
    rw [show (8 : Int32) = nI 8 from rfl, nI_mul, ← by8_sh x (by omega)]
    rcases (show j = 0 ∨ j = 1 ∨ j = 2 ∨ j = 3 by omega) with rfl | rfl | rfl | rfl
    · show by8 (ushr x (nI 0)) = by8 x
      rw [by8_sh x (by omega)]
      apply by8_eq; intro i hi
      rw [b_sshr 0 (by omega) x (by omega), if_pos (by omega), Nat.zero_add]
    · rfl
    · rfl
    · rfl
  rw [this]
  rfl
theorem types_g {M : SM} {n : Nat} (e : M.1 280 13 = nI n) (hn : n + 4 ≤ 200) (x : Int32) : qmd_types x M = some ((), p4 289 280 13 n x M) := by
  have key : ∀ fu, qmd_types_L2 (fu + 1 + 1 + 1 + 1 + 1) x (nI 3) M = some ((), p4 289 280 13 n x M) := by
    intro fu
    rw [types_1 e (by omega) (by omega), show nI 3 + (-1 : Int32) = nI 2 from by decide, types_1 pB_sz (by omega) (by omega), show nI 2 + (-1 : Int32) = nI 1 from by decide, types_1 pB_sz (by omega) (by omega), show nI 1 + (-1 : Int32) = nI 0 from by decide, types_1 pB_sz (by omega) (by omega), types_s, if_pos (by decide)]
    rfl
  exact key 999995
def p20 (c sc si n : Nat) (a b d e f : Int32) (M : SM) : SM := p4 c sc si (n + 4 + 4 + 4 + 4) f (p4 c sc si (n + 4 + 4 + 4) e (p4 c sc si (n + 4 + 4) d (p4 c sc si (n + 4) b (p4 c sc si n a M))))
def yC (a b d e f : Int32) (j : Nat) : Int32 := if j < 4 then yB a j else if j < 8 then yB b (j - 4) else if j < 12 then yB d (j - 8) else if j < 16 then yB e (j - 12) else yB f (j - 16)
theorem p4_sz {c sc si n : Nat} {x : Int32} {M : SM} : (p4 c sc si n x M).1 sc si = nI (n + 4) := pB_sz
theorem p20_1 {c sc si n : Nat} {a b d e f : Int32} {M : SM} (hc : c ≠ sc) (c' i' : Nat) : (p20 c sc si n a b d e f M).1 c' i' = if c' = sc ∧ i' = si then nI (n + 20) else if c' = c ∧ n ≤ i' ∧ i' < n + 20 then yC a b d e f (i' - n) else M.1 c' i' := by
  unfold p20
  rw [p4_1 hc, p4_1 hc, p4_1 hc, p4_1 hc, p4_1 hc]
  by_cases h1 : c' = sc ∧ i' = si
  · rw [if_pos h1, if_pos h1]
  · simp only [if_neg h1]
    by_cases h2 : c' = c
    · subst h2
      unfold yC
      by_cases z0 : n ≤ i'
      · by_cases z1 : i' < n + 4
        · rw [if_neg (by omega), if_neg (by omega), if_neg (by omega), if_neg (by omega), if_pos (by omega), if_pos (by omega), if_pos (by omega)]
        · by_cases z2 : i' < n + 8
          · rw [if_neg (by omega), if_neg (by omega), if_neg (by omega), if_pos (by omega), if_pos (by omega), if_neg (by omega), if_pos (by omega)]
            exact congrArg (yB _) (by omega)
          · by_cases z3 : i' < n + 12
            · rw [if_neg (by omega), if_neg (by omega), if_pos (by omega), if_pos (by omega), if_neg (by omega), if_neg (by omega), if_pos (by omega)]
              exact congrArg (yB _) (by omega)
            · by_cases z4 : i' < n + 16
              · rw [if_neg (by omega), if_pos (by omega), if_pos (by omega), if_neg (by omega), if_neg (by omega), if_neg (by omega), if_pos (by omega)]
                exact congrArg (yB _) (by omega)
              · by_cases z5 : i' < n + 20
                · rw [if_pos (by omega), if_pos (by omega), if_neg (by omega), if_neg (by omega), if_neg (by omega), if_neg (by omega)]
                  exact congrArg (yB _) (by omega)
                · rw [if_neg (by omega), if_neg (by omega), if_neg (by omega), if_neg (by omega), if_neg (by omega), if_neg (by omega)]
      · rw [if_neg (by omega), if_neg (by omega), if_neg (by omega), if_neg (by omega), if_neg (by omega), if_neg (by omega)]
    · rw [if_neg (by omega), if_neg (by omega), if_neg (by omega), if_neg (by omega), if_neg (by omega), if_neg (by omega)]
section
variable {M : SM}
theorem feed_p (h : I_tp M) (a b c d e : Int32) : Pr M (qfr_feed a b c d e) (qmd_feed a b c d e) (fun M2 => I_tp M2 ∧ Ou sTp M M2) := by
  obtain ⟨k1, k2, k3⟩ := h.1
  by_cases h6 : taM M + 20 ≤ 200
  · have q : (p20 2 1 1 (taM M) a b c d e M).1 280 13 = nI (taM M) := by
      rw [p20_1 (by omega), if_neg (by omega), if_neg (by omega), k3]
    refine Pr.mk (r := nI (taM M + 20)) (M1 := p20 2 1 1 (taM M) a b c d e M) (M2 := p20 289 280 13 (taM M) a b c d e (p20 2 1 1 (taM M) a b c d e M)) ?_ ?_ ⟨?_, fun c' i' hs => ?_, rfl⟩ (fun c' i' hc => by rw [p20_1 (by omega), if_neg (by omega), if_neg (by omega)])
    · unfold qfr_feed qtp_hasRoomFor
      rw [k1, show (20 : Int32) = nI 20 from rfl, nI_add, if_neg (by show ¬ nI 200 < _; rw [nI_ltN (by omega) (by omega)]; omega), ob_s, if_neg (by decide), putInt_g k1 (by omega), ob_s, putInt_g p4_sz (by omega), ob_s, putInt_g p4_sz (by omega), ob_s, putInt_g p4_sz (by omega), ob_s, putInt_g p4_sz (by omega), ob_s, p4_sz]
      rfl
    · unfold qmd_feed
      rw [q, show (20 : Int32) = nI 20 from rfl, nI_add, if_neg (by show ¬ nI 200 < _; rw [nI_ltN (by omega) (by omega)]; omega), types_g q (by omega), ob_s, types_g p4_sz (by omega), ob_s, types_g p4_sz (by omega), ob_s, types_g p4_sz (by omega), ob_s, types_g p4_sz (by omega), ob_s, p4_sz]
      rfl
    · have g : ∀ c' i', (p20 289 280 13 (taM M) a b c d e (p20 2 1 1 (taM M) a b c d e M)).1 c' i' = if c' = 280 ∧ i' = 13 then nI (taM M + 20) else if c' = 289 ∧ taM M ≤ i' ∧ i' < taM M + 20 then yC a b c d e (i' - taM M) else if c' = 1 ∧ i' = 1 then nI (taM M + 20) else if c' = 2 ∧ taM M ≤ i' ∧ i' < taM M + 20 then yC a b c d e (i' - taM M) else M.1 c' i' := fun c' i' => by
        rw [p20_1 (by omega), p20_1 (by omega)]
      have e0 : taM (p20 289 280 13 (taM M) a b c d e (p20 2 1 1 (taM M) a b c d e M)) = taM M + 20 := by
        show Int32.toNatClampNeg _ = _
        rw [g, if_neg (by omega), if_neg (by omega), if_pos ⟨rfl, rfl⟩, nI_cl (by omega)]
      unfold I_tp
      rw [e0]
      refine ⟨⟨?_, h6, ?_⟩, fun i hi => ?_⟩
      · rw [g, if_neg (by omega), if_neg (by omega), if_pos ⟨rfl, rfl⟩]
      · rw [g, if_pos ⟨rfl, rfl⟩]
      · by_cases z : taM M ≤ i ∧ i < taM M + 20
        · rw [g, if_neg (by omega), if_pos ⟨rfl, z⟩, g, if_neg (by omega), if_neg (by omega), if_neg (by omega), if_pos ⟨rfl, z⟩]
        · rw [g, if_neg (by omega), if_neg (by omega), if_neg (by omega), if_neg (by omega), g, if_neg (by omega), if_neg (by omega), if_neg (by omega), if_neg (by omega)]; exact h.2 i hi
    · unfold sTp at hs
      rw [p20_1 (by omega), p20_1 (by omega), if_neg (by omega), if_neg (by omega), if_neg (by omega), if_neg (by omega)]
  · refine Pr.mk (r := -1) (M1 := M) (M2 := M) ?_ ?_ ⟨h, Ou.rf _ _⟩
    · unfold qfr_feed qtp_hasRoomFor
      rw [k1, show (20 : Int32) = nI 20 from rfl, nI_add, if_pos (by show nI 200 < _; rw [nI_ltN (by omega) (by omega)]; omega), ob_s, if_pos rfl]
    · unfold qmd_feed
      rw [k3, show (20 : Int32) = nI 20 from rfl, nI_add, if_pos (by show nI 200 < _; rw [nI_ltN (by omega) (by omega)]; omega)]
theorem byteAt_g {n : Nat} (e : M.1 1 1 = nI n) (hn : n ≤ 200) {i : Nat} (hi : i < n) : qtp_byteAt (nI i) M = some (M.1 2 i &&& 255, M) := by
  unfold qtp_byteAt
  rw [if_neg (nI_lt0 (by omega)), e, if_pos ((nI_ltI (by omega) (by omega)).mpr hi), if_pos (nl_200 (by omega)), ck_ib (by omega) (by omega), ck_t, nI_cl (by omega)]
end
