/-! the making of things: what is not yet made is at its default -/
def FM (n : Nat) (R : MR) (I : MI) (L : ML) : Prop := n ≤ 336 ∧ (∀ c, n ≤ c → ∀ i, R c i = none) ∧ (∀ c, n ≤ c → c < 336 → ∀ i, I c i = if K0 c = 7 ∧ i = 1 then -1 else 0) ∧ (∀ c, n ≤ c → c < 336 → ∀ i, L c i = 0)
def fiI (I : MI) (c N : Nat) (v : Int32) : MI := fun c' i' => bif Nat.beq c' c && Nat.blt i' N then v else I c' i'
theorem fiI_e (f : MI) (c N : Nat) (v : Int32) (c' i' : Nat) : fiI f c N v c' i' = if c' = c ∧ i' < N then v else f c' i' := by
  unfold fiI
  by_cases h1 : c' = c
  · subst h1
    by_cases h2 : i' < N
    · rw [if_pos ⟨rfl, h2⟩, Nat.beq_refl, show Nat.blt i' N = true from blt_iff.mpr h2]; rfl
    · rw [if_neg (fun q => h2 q.2), show Nat.blt i' N = false from Bool.eq_false_iff.mpr (fun q => h2 (blt_iff.mp q)), Bool.and_false]; rfl
  · rw [if_neg (fun q => h1 q.1), beq_f h1]; rfl
def mnR (R : MR) (n k : Nat) : MR := fun c i => if c = n then (if i < k then some (n + 1 + i) else none) else R c i
theorem FM.le {n m : Nat} {R : MR} {I : MI} {L : ML} (h : FM n R I L) (hm : n ≤ m) (hl : m ≤ 336) : FM m R I L :=
  ⟨hl, fun c hc => h.2.1 c (by omega), fun c hc => h.2.2.1 c (by omega), fun c hc => h.2.2.2 c (by omega)⟩
theorem FM.mk1 {n m : Nat} {R : MR} {I : MI} {L : ML} (h : FM n R I L) (hm : n + 1 = m) (hl : n < 336) : nw (n, R, I, L) = (m, R, I, L) ∧ FM m R I L := by
  subst hm
  refine ⟨?_, h.le (by omega) (by omega)⟩
  unfold nw
  have e1 : clR R n = R := by
    funext c i
    unfold clR
    by_cases hc : c = n
    · rw [if_pos hc, h.2.1 c (by omega)]
    · rw [if_neg hc]
  have e2 : clI I n = I := by
    funext c i
    unfold clI
    by_cases hc : c = n
    · subst hc; rw [if_pos rfl, h.2.2.1 c (Nat.le_refl _) hl]
    · rw [if_neg hc]
  have e3 : clL L n = L := by
    funext c i
    unfold clL
    by_cases hc : c = n
    · subst hc; rw [if_pos rfl, h.2.2.2 c (Nat.le_refl _) hl]
    · rw [if_neg hc]
  show (n + 1, clR R n, clI I n, clL L n) = _
  rw [e1, e2, e3]
theorem FM.mks : ∀ (k : Nat) {n : Nat} {R : MR} {I : MI} {L : ML}, FM n R I L → n + k ≤ 336 → nws k (n, R, I, L) = (n + k, R, I, L)
  | 0, n, R, I, L, _, _ => rfl
  | k + 1, n, R, I, L, h, hl => by
    show nws k (nw (n, R, I, L)) = _
    rw [(h.mk1 rfl (by omega)).1, FM.mks k (h.mk1 rfl (by omega)).2 (by omega), Nat.add_assoc, Nat.add_comm 1 k]
theorem FM.mkm {n m : Nat} {R : MR} {I : MI} {L : ML} (h : FM n R I L) (k : Nat) (hm : n + 1 + k = m) (hl : m ≤ 336) : nwm k (n, R, I, L) = (m, mnR R n k, I, L) ∧ FM m (mnR R n k) I L := by
  subst hm
  have h2 := FM.mks (k + 1) h (by omega)
  refine ⟨?_, hl, fun c hc i => ?_, fun c hc => h.2.2.1 c (by omega), fun c hc => h.2.2.2 c (by omega)⟩
  · unfold nwm
    rw [h2]
    show (n + (k + 1), mnR R n k, I, L) = _
    rw [Nat.add_assoc, Nat.add_comm 1 k]
  · unfold mnR
    rw [if_neg (by omega)]
    exact h.2.1 c (by omega) i
theorem FM.uR {n c i : Nat} {v : Option Nat} {R : MR} {I : MI} {L : ML} (h : FM n R I L) (hc : c < n) : FM n (upR R c i v) I L :=
  ⟨h.1, fun c' hc' i' => by rw [upR_e, if_neg (by omega)]; exact h.2.1 c' hc' i', h.2.2⟩
theorem FM.uI {n c i : Nat} {v : Int32} {R : MR} {I : MI} {L : ML} (h : FM n R I L) (hc : c < n) : FM n R (upI I c i v) L :=
  ⟨h.1, h.2.1, fun c' hc' hl i' => by rw [upI_e, if_neg (by omega)]; exact h.2.2.1 c' hc' hl i', h.2.2.2⟩
theorem FM.fi {n c N : Nat} {v : Int32} {R : MR} {I : MI} {L : ML} (h : FM n R I L) (hc : c < n) : FM n R (fiI I c N v) L :=
  ⟨h.1, h.2.1, fun c' hc' hl i' => by rw [fiI_e, if_neg (by omega)]; exact h.2.2.1 c' hc' hl i', h.2.2.2⟩
theorem fiI_0 (I : MI) (c : Nat) (v : Int32) : fiI I c 0 v = I := by
  funext c' i'
  rw [fiI_e, if_neg (by omega)]
theorem fiI_s (I : MI) (c j : Nat) (v : Int32) : upI (fiI I c j v) c j v = fiI I c (j + 1) v := by
  funext c' i'
  rw [upI_e, fiI_e, fiI_e]
  by_cases h1 : c' = c
  · by_cases h2 : i' = j
    · rw [if_pos ⟨h1, h2⟩, if_pos ⟨h1, by omega⟩]
    · by_cases h3 : i' < j
      · rw [if_neg (fun q => h2 q.2), if_pos ⟨h1, h3⟩, if_pos ⟨h1, by omega⟩]
      · rw [if_neg (fun q => h2 q.2), if_neg (fun q => h3 q.2), if_neg (fun q => by omega)]
  · rw [if_neg (fun q => h1 q.1), if_neg (fun q => h1 q.1), if_neg (fun q => h1 q.1)]
theorem i_toInt {j : Nat} (h : j < 2147483648) : (Int32.ofNat j).toInt = j := Int32.toInt_ofNat_of_lt h
theorem i_clamp {j : Nat} (h : j < 2147483648) : (Int32.ofNat j).toNatClampNeg = j := by
  rw [Int32.toNatClampNeg, i_toInt h]
  exact Int.toNat_natCast j
theorem i_lt {j : Nat} {v : Int32} (h : (j : Int) < v.toInt) : Int32.ofNat j < v := by
  have hv := v.toInt_lt
  have h2 : j < 2147483648 := by omega
  rw [Int32.lt_iff_toInt_lt, i_toInt h2]
  exact h
theorem i_ib {j N : Nat} (h : j < N) (hN : N < 2147483648) : ib N (Int32.ofNat j) = true := by
  unfold ib
  have h2 : j < 2147483648 := by omega
  refine decide_eq_true ?_
  rw [i_clamp h2, Int32.lt_iff_toInt_lt, i_toInt h2]
  intro q
  rcases q with q | q
  · have : (0 : Int32).toInt = 0 := by decide
    omega
  · omega
theorem i_succ (j : Nat) : Int32.ofNat j + 1 = Int32.ofNat (j + 1) := by
  rw [Int32.ofNat_add]; rfl
/-- a fill with one value, in the making -/
theorem mt_1001b : MT 1001 K_1001 LN_10 := ⟨rfl, rfl, by decide +kernel⟩
theorem okm_1001b : OKm 1001 := ⟨⟨vE_1001, okL_10, by decide +kernel⟩, by decide +kernel, by decide +kernel, by decide +kernel⟩
set_option maxRecDepth 20000 in
theorem fill_l {d n c N : Nat} {v : Int32} {R : MR} {I : MI} {L : ML} (hc : c < n) (hK : K0 c = 20) (hZ : Z0 c = N) (hN : N < 2147483648) : ∀ (k j : Nat), j + k = N → Rc d 1001 (11, [.ref c, .int 0, .int v, .int (Int32.ofNat j)], [], (n, R, fiI I c j v, L)) (none, (n, R, fiI I c N v, L)) := by
  have hkc : (Nat.blt 19 (K0 c) && Nat.blt (K0 c) 28 && Nat.blt c n) = true := by rw [hK, show Nat.blt c n = true from blt_iff.mpr hc]; rfl
  have hav : ∀ j, j < N → av n 20 c (Int32.ofNat j) = true := fun j hj => by
    unfold av kc
    rw [hK, hZ, show Nat.blt c n = true from blt_iff.mpr hc, i_ib hj hN]; rfl
  intro k
  induction k with
  | zero =>
    intro j hj
    have hj : j = N := by omega
    subst hj
    refine Rc.goL mt_1001b 3 (f2 := (if Int32.ofNat j < Int32.ofNat (Z0 c) then 17 else 27, [.ref c, .int 0, .int v, .int (Int32.ofNat j)], [], (n, R, fiI I c j v, L))) (b := ((Nat.blt 19 (K0 c) && Nat.blt (K0 c) 28 && Nat.blt c n) && true)) rfl (and_i hkc rfl) ?_
    rw [hZ, if_neg (fun q => by rw [Int32.lt_iff_toInt_lt] at q; omega)]
    exact Rc.ret (v := none) rfl rfl
  | succ k ih =>
    intro j hj
    refine Rc.goL mt_1001b 3 (f2 := (if Int32.ofNat j < Int32.ofNat (Z0 c) then 17 else 27, [.ref c, .int 0, .int v, .int (Int32.ofNat j)], [], (n, R, fiI I c j v, L))) (b := ((Nat.blt 19 (K0 c) && Nat.blt (K0 c) 28 && Nat.blt c n) && true)) rfl (and_i hkc rfl) ?_
    rw [hZ, if_pos (i_lt (by rw [i_toInt hN]; omega))]
    refine Rc.goL mt_1001b 3 (f2 := (21, [.ref c, .int 0, .int v, .int (Int32.ofNat j)], [], (n, R, upI (fiI I c j v) c (Int32.toNatClampNeg (Int32.ofNat j)) v, L))) (b := (av n 20 c (Int32.ofNat j) && true)) rfl (and_i (hav j (by omega)) rfl) ?_
    rw [i_clamp (by omega), fiI_s]
    refine Rc.goL mt_1001b 1 (f2 := (11, [.ref c, .int 0, .int v, .int (Int32.ofNat j + 1)], [], (n, R, fiI I c (j + 1) v, L))) (b := true) rfl rfl ?_
    rw [i_succ]
    exact ih (j + 1) (by omega)
set_option maxRecDepth 20000 in
theorem fill_g {d n c N : Nat} {v : Int32} {R : MR} {I : MI} {L : ML} (hd : 1 ≤ d) (hc : c < n) (hK : K0 c = 20) (hZ : Z0 c = N) (hN : N < 2147483648) : Ex d 1001 [.ref c, .int 0, .int v] (n, R, I, L) (none, (n, R, fiI I c N v, L)) := by
  refine Ex.of okm_1001b hd (Nat.le_of_ble_eq_true rfl) ?_
  show Rc d 1001 (0, [.ref c, .int 0, .int v, UU], [], (n, R, I, L)) _
  refine Rc.goL mt_1001b 1 (f2 := (4, [.ref c, .int 0, .int v, UU], [], (n, R, I, L))) (b := true) rfl rfl ?_
  refine Rc.goL mt_1001b 1 (f2 := (9, [.ref c, .int 0, .int v, UU], [], (n, R, I, L))) (b := true) rfl rfl ?_
  refine Rc.goL mt_1001b 1 (f2 := (11, [.ref c, .int 0, .int v, .int (Int32.ofNat 0)], [], (n, R, I, L))) (b := true) rfl rfl ?_
  have h := fill_l (d := d) (v := v) (R := R) (I := I) (L := L) hc hK hZ hN N 0 (by omega)
  rwa [fiI_0] at h
