/-! ===== Int32 by its bits: bt x i ===== -/
def bt (x : Int32) (i : Nat) : Bool := x.toBitVec.getLsbD i
theorem b_ext {x y : Int32} (h : ∀ i, i < 32 → bt x i = bt y i) : x = y := Int32.toBitVec_inj.mp (BitVec.eq_of_getLsbD_eq (fun i hi => h i hi))
theorem b_or (x y : Int32) (i : Nat) : bt (x ||| y) i = (bt x i || bt y i) := by unfold bt; rw [Int32.toBitVec_or, BitVec.getLsbD_or]
theorem b_and (x y : Int32) (i : Nat) : bt (x &&& y) i = (bt x i && bt y i) := by unfold bt; rw [Int32.toBitVec_and, BitVec.getLsbD_and]
theorem b_xor (x y : Int32) (i : Nat) : bt (x ^^^ y) i = (bt x i ^^ bt y i) := by unfold bt; rw [Int32.toBitVec_xor, BitVec.getLsbD_xor]
theorem b_big {x : Int32} {i : Nat} (h : 32 ≤ i) : bt x i = false := BitVec.getLsbD_of_ge _ _ h
theorem b_255 (i : Nat) : bt 255 i = decide (i < 8) := by
  rcases Nat.lt_or_ge i 32 with h | h
  · exact (by decide +kernel : ∀ i, i < 32 → bt 255 i = decide (i < 8)) i h
  · rw [b_big h, decide_eq_false (by omega)]
theorem b_65535 (i : Nat) : bt 65535 i = decide (i < 16) := by
  rcases Nat.lt_or_ge i 32 with h | h
  · exact (by decide +kernel : ∀ i, i < 32 → bt 65535 i = decide (i < 16)) i h
  · rw [b_big h, decide_eq_false (by omega)]
theorem b_m1 : ∀ i, i < 32 → bt (-1) i = true := by decide +kernel
theorem b_0 (i : Nat) : bt 0 i = false := BitVec.getLsbD_zero
theorem s_l : ∀ n, n < 32 → ((nI n &&& 31).toBitVec.smod 32).toNat = n := by decide +kernel
theorem s_u : ∀ n, n < 32 → (((nI n).toUInt32 &&& Int32.toUInt32 31).toBitVec % 32).toNat = n := by decide +kernel
theorem b_shl (n : Nat) (hn : n < 32) (x : Int32) {i : Nat} (hi : i < 32) : bt (x <<< (nI n &&& 31)) i = (decide (n ≤ i) && bt x (i - n)) := by
  unfold bt
  rw [Int32.toBitVec_shiftLeft]
  show (x.toBitVec <<< ((nI n &&& 31).toBitVec.smod 32).toNat).getLsbD i = _
  rw [s_l n hn, BitVec.getLsbD_shiftLeft]
  rcases Nat.lt_or_ge i n with h | h
  · simp [h, Nat.not_le.mpr h]
  · simp [hi, h, Nat.not_lt.mpr h]
theorem b_ushr (n : Nat) (hn : n < 32) (x : Int32) (i : Nat) : bt ((x.toUInt32 >>> ((nI n).toUInt32 &&& Int32.toUInt32 31)).toInt32) i = bt x (n + i) := by
  show (x.toUInt32 >>> ((nI n).toUInt32 &&& Int32.toUInt32 31)).toBitVec.getLsbD i = x.toUInt32.toBitVec.getLsbD (n + i)
  rw [UInt32.toBitVec_shiftRight]
  show (x.toUInt32.toBitVec >>> (((nI n).toUInt32 &&& Int32.toUInt32 31).toBitVec % 32).toNat).getLsbD i = _
  rw [s_u n hn, BitVec.getLsbD_ushiftRight]
theorem b_sshr (n : Nat) (hn : n < 32) (x : Int32) {i : Nat} (hi : i < 32) : bt (x >>> (nI n &&& 31)) i = if n + i < 32 then bt x (n + i) else bt x 31 := by
  unfold bt
  rw [Int32.toBitVec_shiftRight]
  show (x.toBitVec.sshiftRight ((nI n &&& 31).toBitVec.smod 32).toNat).getLsbD i = _
  rw [s_l n hn, BitVec.getLsbD_sshiftRight, BitVec.msb_eq_getLsbD_last]
  simp [hi]
theorem b_shl8 (x : Int32) {i : Nat} (hi : i < 32) : bt (x <<< ((8 : Int32) &&& 31)) i = (decide (8 ≤ i) && bt x (i - 8)) := b_shl 8 (by omega) x hi
theorem b_shl16 (x : Int32) {i : Nat} (hi : i < 32) : bt (x <<< ((16 : Int32) &&& 31)) i = (decide (16 ≤ i) && bt x (i - 16)) := b_shl 16 (by omega) x hi
theorem b_shl24 (x : Int32) {i : Nat} (hi : i < 32) : bt (x <<< ((24 : Int32) &&& 31)) i = (decide (24 ≤ i) && bt x (i - 24)) := b_shl 24 (by omega) x hi
theorem b_sshr8 (x : Int32) {i : Nat} (hi : i < 32) : bt (x >>> ((8 : Int32) &&& 31)) i = if 8 + i < 32 then bt x (8 + i) else bt x 31 := b_sshr 8 (by omega) x hi
theorem nx_and (a b : Nat) : nI a &&& nI b = nI (a &&& b) := by
  apply Int32.toBitVec_inj.1
  show BitVec.ofNat 32 a &&& BitVec.ofNat 32 b = BitVec.ofNat 32 (a &&& b)
  apply BitVec.eq_of_getLsbD_eq
  intro i hi
  simp [hi]
theorem nx_xor (a b : Nat) : nI a ^^^ nI b = nI (a ^^^ b) := by
  apply Int32.toBitVec_inj.1
  show BitVec.ofNat 32 a ^^^ BitVec.ofNat 32 b = BitVec.ofNat 32 (a ^^^ b)
  apply BitVec.eq_of_getLsbD_eq
  intro i hi
  simp [hi]
/-! more of bits, and the common rows of simp -/
theorem bt_nI (n i : Nat) : bt (nI n) i = (decide (i < 32) && n.testBit i) := by
  unfold bt nI
  show (BitVec.ofNat 32 n).getLsbD i = _
  rw [BitVec.getLsbD_ofNat]
theorem sh1_nI : ∀ n, n < 31 → (1 : Int32) <<< (nI n &&& 31) = nI (2 ^ n) := by decide +kernel
theorem nx_or (a b : Nat) : nI a ||| nI b = nI (a ||| b) := by
  apply b_ext; intro i hi
  rw [b_or, bt_nI, bt_nI, bt_nI, Nat.testBit_or]
  simp [hi]
theorem or_pow {n s : Nat} (h : s < 2 ^ n) : 2 ^ n ||| s = 2 ^ n + s := by
  have := Nat.two_pow_add_eq_or_of_lt h 1
  simpa using this.symm
theorem bit_rm {s i : Nat} (hi : i < 31) : nI s &&& (nI (2 ^ i) ^^^ (-1)) = nI (if s.testBit i then s ^^^ 2 ^ i else s) := by
  apply b_ext; intro j hj
  rw [b_and, b_xor, b_m1 j hj, bt_nI, bt_nI, bt_nI]
  by_cases h : s.testBit i = true
  · rw [if_pos h, Nat.testBit_xor, Nat.testBit_two_pow]
    by_cases q : i = j
    · subst q; simp [hj, h]
    · simp [hj, q]
  · rw [if_neg h, Nat.testBit_two_pow]
    by_cases q : i = j
    · subst q; simp at h; simp [hj, h]
    · simp [hj, q]
theorem bit_at {s i : Nat} (hs : s < 2147483648) (hi : i < 31) : (nI s >>> (nI i &&& 31)) &&& 1 = nI (if s.testBit i then 1 else 0) := by
  have h31 : s.testBit 31 = false := Nat.testBit_lt_two_pow (by omega)
  have key : ∀ v : Nat, v = (if s.testBit i then 1 else 0) → (nI s >>> (nI i &&& 31)) &&& 1 = nI v := fun v hv => by
    apply b_ext; intro j hj
    rw [b_and, b_sshr i (by omega) _ hj, show (1 : Int32) = nI 1 from rfl, bt_nI, bt_nI, bt_nI, bt_nI]
    by_cases q : j = 0
    · subst q
      rw [if_pos (by omega), Nat.add_zero]
      by_cases h : s.testBit i = true
      · rw [if_pos h] at hv; subst hv; rw [h]; simp; omega
      · rw [if_neg h] at hv; subst hv; simp at h; rw [h]; simp
    · have e1 : (1 : Nat).testBit j = false := by
        rw [show (1 : Nat) = 2 ^ 0 from rfl, Nat.testBit_two_pow]; simp; omega
      rw [e1]
      by_cases h : s.testBit i = true
      · rw [if_pos h] at hv; subst hv; rw [e1]; simp
      · rw [if_neg h] at hv; subst hv; simp
  exact key _ rfl
theorem xor_lt : ∀ {i s : Nat}, s.testBit i = true → s ^^^ 2 ^ i < s
  | 0, s, h => by
    have h1 : (s ^^^ 2 ^ 0) / 2 = s / 2 := by rw [Nat.xor_div_two]; simp
    have h2 : (s ^^^ 2 ^ 0) % 2 = 0 := by
      have z : (s ^^^ 2 ^ 0).testBit 0 = false := by rw [Nat.testBit_xor, h]; simp
      rw [Nat.testBit_zero, decide_eq_false_iff_not] at z
      omega
    have h3 : s % 2 = 1 := by
      rw [Nat.testBit_zero] at h
      simpa using h
    omega
  | i + 1, s, h => by
    have h1 : (s ^^^ 2 ^ (i + 1)) / 2 = s / 2 ^^^ 2 ^ i := by
      rw [Nat.xor_div_two, Nat.pow_succ, Nat.mul_div_cancel _ (by decide)]
    have h2 : s / 2 ^^^ 2 ^ i < s / 2 := xor_lt (by rw [Nat.testBit_succ] at h; exact h)
    omega
theorem ck_ib {β : Type} {n i : Nat} {b : Bool} {k : Option β} (h : i < n) (hn : n ≤ 2147483648) : ck (ib n (nI i) && b) k = ck b k := by
  rw [ib_n h hn]; rfl
theorem ck_av {β : Type} {a kk i : Nat} {b : Bool} {k : Option β} (hk : K0 a = kk) (ha : a < 336) (h : i < Z0 a) (hz : Z0 a ≤ 2147483648) : ck (av 336 kk a (nI i) && b) k = ck b k := by
  rw [av_n hk ha h hz]; rfl
theorem ck_dt {β : Type} {p : Prop} {d : Decidable p} {b : Bool} {k : Option β} (h : p) : ck (@decide p d && b) k = ck b k := by
  rw [decide_eq_true h]; rfl
theorem m1_nI {n : Nat} (h : n < 2147483648) : (nI n = -1) = False := eq_false (nI_ne_m1 h)
theorem nI_m1N {a : Nat} (h : 1 ≤ a) : nI a - 1 = nI (a - 1) := nI_subN h
theorem nI_ltm1 {n : Nat} (h : n < 2147483648) : (nI n < -1) = False := eq_false fun q => by
  rw [Int32.lt_iff_toInt_lt, nI_toInt h] at q
  rw [show (-1 : Int32).toInt = -1 from rfl] at q
  omega
theorem li_0 : (0 : Int32) = nI 0 := rfl
theorem li_1 : (1 : Int32) = nI 1 := rfl
theorem li_2 : (2 : Int32) = nI 2 := rfl
theorem li_3 : (3 : Int32) = nI 3 := rfl
theorem li_4 : (4 : Int32) = nI 4 := rfl
theorem li_5 : (5 : Int32) = nI 5 := rfl
theorem li_6 : (6 : Int32) = nI 6 := rfl
theorem li_7 : (7 : Int32) = nI 7 := rfl
theorem li_8 : (8 : Int32) = nI 8 := rfl
theorem li_9 : (9 : Int32) = nI 9 := rfl
theorem li_10 : (10 : Int32) = nI 10 := rfl
theorem li_11 : (11 : Int32) = nI 11 := rfl
theorem li_12 : (12 : Int32) = nI 12 := rfl
theorem li_13 : (13 : Int32) = nI 13 := rfl
theorem li_14 : (14 : Int32) = nI 14 := rfl
theorem li_15 : (15 : Int32) = nI 15 := rfl
theorem li_16 : (16 : Int32) = nI 16 := rfl
theorem li_17 : (17 : Int32) = nI 17 := rfl
theorem li_18 : (18 : Int32) = nI 18 := rfl
theorem li_20 : (20 : Int32) = nI 20 := rfl
theorem li_24 : (24 : Int32) = nI 24 := rfl
theorem li_25 : (25 : Int32) = nI 25 := rfl
theorem li_26 : (26 : Int32) = nI 26 := rfl
theorem li_40 : (40 : Int32) = nI 40 := rfl
theorem li_60 : (60 : Int32) = nI 60 := rfl
theorem li_61 : (61 : Int32) = nI 61 := rfl
theorem li_80 : (80 : Int32) = nI 80 := rfl
theorem li_99 : (99 : Int32) = nI 99 := rfl
theorem li_100 : (100 : Int32) = nI 100 := rfl
theorem li_200 : (200 : Int32) = nI 200 := rfl
theorem li_220 : (220 : Int32) = nI 220 := rfl
theorem li_255 : (255 : Int32) = nI 255 := rfl
theorem li_300 : (300 : Int32) = nI 300 := rfl
theorem li_519 : (519 : Int32) = nI 519 := rfl
theorem li_520 : (520 : Int32) = nI 520 := rfl
theorem li_999 : (999 : Int32) = nI 999 := rfl
theorem li_1000 : (1000 : Int32) = nI 1000 := rfl
theorem li_4096 : (4096 : Int32) = nI 4096 := rfl
theorem li_9999 : (9999 : Int32) = nI 9999 := rfl
theorem li_10000 : (10000 : Int32) = nI 10000 := rfl
theorem li_100000 : (100000 : Int32) = nI 100000 := rfl
theorem li_1000000 : (1000000 : Int32) = nI 1000000 := rfl
theorem nl_8 {a : Nat} (h : a < 8) : nI a < (8 : Int32) := nI_lt (b := 8) h (by decide)
theorem nl_10 {a : Nat} (h : a < 10) : nI a < (10 : Int32) := nI_lt (b := 10) h (by decide)
theorem nl_12 {a : Nat} (h : a < 12) : nI a < (12 : Int32) := nI_lt (b := 12) h (by decide)
theorem nl_16 {a : Nat} (h : a < 16) : nI a < (16 : Int32) := nI_lt (b := 16) h (by decide)
theorem nl_18 {a : Nat} (h : a < 18) : nI a < (18 : Int32) := nI_lt (b := 18) h (by decide)
theorem nl_25 {a : Nat} (h : a < 25) : nI a < (25 : Int32) := nI_lt (b := 25) h (by decide)
theorem nl_26 {a : Nat} (h : a < 26) : nI a < (26 : Int32) := nI_lt (b := 26) h (by decide)
theorem nl_40 {a : Nat} (h : a < 40) : nI a < (40 : Int32) := nI_lt (b := 40) h (by decide)
theorem nl_60 {a : Nat} (h : a < 60) : nI a < (60 : Int32) := nI_lt (b := 60) h (by decide)
theorem nl_61 {a : Nat} (h : a < 61) : nI a < (61 : Int32) := nI_lt (b := 61) h (by decide)
theorem nl_100 {a : Nat} (h : a < 100) : nI a < (100 : Int32) := nI_lt (b := 100) h (by decide)
theorem nl_200 {a : Nat} (h : a < 200) : nI a < (200 : Int32) := nI_lt (b := 200) h (by decide)
theorem nl_220 {a : Nat} (h : a < 220) : nI a < (220 : Int32) := nI_lt (b := 220) h (by decide)
theorem nl_300 {a : Nat} (h : a < 300) : nI a < (300 : Int32) := nI_lt (b := 300) h (by decide)
theorem nl_520 {a : Nat} (h : a < 520) : nI a < (520 : Int32) := nI_lt (b := 520) h (by decide)
theorem nl_1000 {a : Nat} (h : a < 1000) : nI a < (1000 : Int32) := nI_lt (b := 1000) h (by decide)
theorem nl_3120 {a : Nat} (h : a < 3120) : nI a < (3120 : Int32) := nI_lt (b := 3120) h (by decide)
theorem nl_4096 {a : Nat} (h : a < 4096) : nI a < (4096 : Int32) := nI_lt (b := 4096) h (by decide)
theorem nl_5200 {a : Nat} (h : a < 5200) : nI a < (5200 : Int32) := nI_lt (b := 5200) h (by decide)
theorem cmp_lt (x y : Int64) : (lg_cmp x y < 0) = (x < y) := by
  unfold lg_cmp
  rcases Int.lt_trichotomy x.toInt y.toInt with h | h | h
  · rw [if_neg (show ¬ y < x from fun q => by rw [Int64.lt_iff_toInt_lt] at q; omega), if_neg (fun q => by rw [q] at h; omega)]
    exact propext ⟨fun _ => Int64.lt_iff_toInt_lt.mpr h, fun _ => by decide⟩
  · obtain rfl := Int64.toInt_inj.mp h
    rw [if_neg (show ¬ x < x from fun q => by rw [Int64.lt_iff_toInt_lt] at q; omega), if_pos rfl]
    exact propext ⟨fun q => absurd q (by decide), fun q => by rw [Int64.lt_iff_toInt_lt] at q; omega⟩
  · rw [if_pos (show y < x from Int64.lt_iff_toInt_lt.mpr h)]
    exact propext ⟨fun q => absurd q (by decide), fun q => by rw [Int64.lt_iff_toInt_lt] at q; omega⟩
theorem cmp_gt (x y : Int64) : (0 < lg_cmp x y) = (y < x) := by
  unfold lg_cmp
  rcases Int.lt_trichotomy x.toInt y.toInt with h | h | h
  · rw [if_neg (show ¬ y < x from fun q => by rw [Int64.lt_iff_toInt_lt] at q; omega), if_neg (fun q => by rw [q] at h; omega)]
    exact propext ⟨fun q => absurd q (by decide), fun q => by rw [Int64.lt_iff_toInt_lt] at q; omega⟩
  · obtain rfl := Int64.toInt_inj.mp h
    rw [if_neg (show ¬ x < x from fun q => by rw [Int64.lt_iff_toInt_lt] at q; omega), if_pos rfl]
    exact propext ⟨fun q => absurd q (by decide), fun q => by rw [Int64.lt_iff_toInt_lt] at q; omega⟩
  · rw [if_pos (show y < x from Int64.lt_iff_toInt_lt.mpr h)]
    exact propext ⟨fun _ => Int64.lt_iff_toInt_lt.mpr h, fun _ => by decide⟩
theorem cmp_eq (x y : Int64) : (lg_cmp x y = 0) = (x = y) := by
  unfold lg_cmp
  rcases Int.lt_trichotomy x.toInt y.toInt with h | h | h
  · rw [if_neg (show ¬ y < x from fun q => by rw [Int64.lt_iff_toInt_lt] at q; omega), if_neg (fun q => by rw [q] at h; omega)]
    exact propext ⟨fun q => absurd q (by decide), fun q => by rw [q] at h; omega⟩
  · obtain rfl := Int64.toInt_inj.mp h
    rw [if_neg (show ¬ x < x from fun q => by rw [Int64.lt_iff_toInt_lt] at q; omega), if_pos rfl]
    exact propext ⟨fun _ => rfl, fun _ => rfl⟩
  · rw [if_pos (show y < x from Int64.lt_iff_toInt_lt.mpr h)]
    exact propext ⟨fun q => absurd q (by decide), fun q => by rw [q] at h; omega⟩
theorem ic_lt {α : Type} {x y : Int64} {d : Decidable (lg_cmp x y < 0)} {a b : α} : @ite α (lg_cmp x y < 0) d a b = if x < y then a else b := by
  by_cases h : x < y
  · rw [if_pos h, if_pos (by rw [cmp_lt]; exact h)]
  · rw [if_neg h, if_neg (by rw [cmp_lt]; exact h)]
theorem ic_gt {α : Type} {x y : Int64} {d : Decidable (0 < lg_cmp x y)} {a b : α} : @ite α (0 < lg_cmp x y) d a b = if y < x then a else b := by
  by_cases h : y < x
  · rw [if_pos h, if_pos (by rw [cmp_gt]; exact h)]
  · rw [if_neg h, if_neg (by rw [cmp_gt]; exact h)]
theorem ic_eq {α : Type} {x y : Int64} {d : Decidable (lg_cmp x y = 0)} {a b : α} : @ite α (lg_cmp x y = 0) d a b = if x = y then a else b := by
  by_cases h : x = y
  · rw [if_pos h, if_pos (by rw [cmp_eq]; exact h)]
  · rw [if_neg h, if_neg (by rw [cmp_eq]; exact h)]
theorem jn_ap {α β : Type} (f : α) (g : α → β) : jn f g = g f := rfl
theorem nn_8 {a : Nat} (h : 8 ≤ a) (ha : a < 2147483648) : ¬ nI a < (8 : Int32) := nI_nlt (a := a) (b := 8) h ha
theorem nn_10 {a : Nat} (h : 10 ≤ a) (ha : a < 2147483648) : ¬ nI a < (10 : Int32) := nI_nlt (a := a) (b := 10) h ha
theorem nn_12 {a : Nat} (h : 12 ≤ a) (ha : a < 2147483648) : ¬ nI a < (12 : Int32) := nI_nlt (a := a) (b := 12) h ha
theorem nn_16 {a : Nat} (h : 16 ≤ a) (ha : a < 2147483648) : ¬ nI a < (16 : Int32) := nI_nlt (a := a) (b := 16) h ha
theorem nn_18 {a : Nat} (h : 18 ≤ a) (ha : a < 2147483648) : ¬ nI a < (18 : Int32) := nI_nlt (a := a) (b := 18) h ha
theorem nn_25 {a : Nat} (h : 25 ≤ a) (ha : a < 2147483648) : ¬ nI a < (25 : Int32) := nI_nlt (a := a) (b := 25) h ha
theorem nn_26 {a : Nat} (h : 26 ≤ a) (ha : a < 2147483648) : ¬ nI a < (26 : Int32) := nI_nlt (a := a) (b := 26) h ha
theorem nn_40 {a : Nat} (h : 40 ≤ a) (ha : a < 2147483648) : ¬ nI a < (40 : Int32) := nI_nlt (a := a) (b := 40) h ha
theorem nn_60 {a : Nat} (h : 60 ≤ a) (ha : a < 2147483648) : ¬ nI a < (60 : Int32) := nI_nlt (a := a) (b := 60) h ha
theorem nn_61 {a : Nat} (h : 61 ≤ a) (ha : a < 2147483648) : ¬ nI a < (61 : Int32) := nI_nlt (a := a) (b := 61) h ha
theorem nn_100 {a : Nat} (h : 100 ≤ a) (ha : a < 2147483648) : ¬ nI a < (100 : Int32) := nI_nlt (a := a) (b := 100) h ha
theorem nn_200 {a : Nat} (h : 200 ≤ a) (ha : a < 2147483648) : ¬ nI a < (200 : Int32) := nI_nlt (a := a) (b := 200) h ha
theorem nn_220 {a : Nat} (h : 220 ≤ a) (ha : a < 2147483648) : ¬ nI a < (220 : Int32) := nI_nlt (a := a) (b := 220) h ha
theorem nn_300 {a : Nat} (h : 300 ≤ a) (ha : a < 2147483648) : ¬ nI a < (300 : Int32) := nI_nlt (a := a) (b := 300) h ha
theorem nn_520 {a : Nat} (h : 520 ≤ a) (ha : a < 2147483648) : ¬ nI a < (520 : Int32) := nI_nlt (a := a) (b := 520) h ha
theorem nn_1000 {a : Nat} (h : 1000 ≤ a) (ha : a < 2147483648) : ¬ nI a < (1000 : Int32) := nI_nlt (a := a) (b := 1000) h ha
theorem nn_3120 {a : Nat} (h : 3120 ≤ a) (ha : a < 2147483648) : ¬ nI a < (3120 : Int32) := nI_nlt (a := a) (b := 3120) h ha
theorem nn_4096 {a : Nat} (h : 4096 ≤ a) (ha : a < 2147483648) : ¬ nI a < (4096 : Int32) := nI_nlt (a := a) (b := 4096) h ha
theorem nn_5200 {a : Nat} (h : 5200 ≤ a) (ha : a < 2147483648) : ¬ nI a < (5200 : Int32) := nI_nlt (a := a) (b := 5200) h ha
