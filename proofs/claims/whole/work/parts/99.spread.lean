/-! spread, judge, share -/
theorem cl_bd (v : Int64) : 0 ≤ (clN v).toInt ∧ (clN v).toInt ≤ 1000000000 := by
  have e0 : (0 : Int64).toInt = 0 := rfl
  have e9 : (1000000000 : Int64).toInt = 1000000000 := rfl
  unfold clN
  rw [lmn_i, lmx_i]
  by_cases q : v < 0
  · rw [if_pos q]
    by_cases z : (0 : Int64) < 1000000000
    · rw [if_pos z, e0]; omega
    · exact absurd (by decide) z
  · rw [if_neg q]
    rw [Int64.lt_iff_toInt_lt, e0] at q
    by_cases z : v < 1000000000
    · rw [if_pos z]
      rw [Int64.lt_iff_toInt_lt, e9] at z
      omega
    · rw [if_neg z, e9]; omega
theorem i64_sub {x y : Int64} (hx : -1000000000000000 ≤ x.toInt ∧ x.toInt ≤ 1000000000000000) (hy : -1000000000000000 ≤ y.toInt ∧ y.toInt ≤ 1000000000000000) : (x - y).toInt = x.toInt - y.toInt := by
  rw [Int64.toInt_sub]
  exact Int.bmod_eq_of_le (by omega) (by omega)
theorem l64 {n : Nat} (h : n < 2147483648) : (Int32.toInt64 (nI n)).toInt = n := by
  rw [Int32.toInt_toInt64, nI_toInt h]
section
variable {M : SM} {V : Nat → FA → LE} {B : Nat → FA → LE → Int64}
theorem gaN_bd (w : Nat) (t l : Int32) (sh nr yn : Nat) {pr k : Nat} (f : Nat) (hp : pr ≤ 100000) (hk : k < 25) : -10000000000 ≤ (gaN M V B w t l sh nr yn pr f k).toInt ∧ (gaN M V B w t l sh nr yn pr f k).toInt ≤ 10000000000 := by
  unfold gaN
  have c1 := cl_bd (if 22 = 17 ∧ ¬ M.1 185 f = -1 then 0 else bdN M B (orF M f w t sh nr yn k) (LV V l (orF M f w t sh nr yn k)) w 22 (acM M))
  have c2 := cl_bd (if 17 = 17 ∧ ¬ M.1 185 f = -1 then 0 else bdN M B (orF M f w t sh nr yn k) (LV V l (orF M f w t sh nr yn k)) w 17 (acM M))
  have c3 := cl_bd (if 2 = 17 ∧ ¬ M.1 185 f = -1 then 0 else bdN M B (orF M f w t sh nr yn k) (LV V l (orF M f w t sh nr yn k)) w 2 (acM M))
  have d1 : 0 ≤ (wkN M V B (orF M f w t sh nr yn k) f w l 22).toInt ∧ (wkN M V B (orF M f w t sh nr yn k) f w l 22).toInt ≤ 1000000000 := c1
  have d2 : 0 ≤ (wkN M V B (orF M f w t sh nr yn k) f w l 17).toInt ∧ (wkN M V B (orF M f w t sh nr yn k) f w l 17).toInt ≤ 1000000000 := c2
  have d3 : 0 ≤ (wkN M V B (orF M f w t sh nr yn k) f w l 2).toInt ∧ (wkN M V B (orF M f w t sh nr yn k) f w l 2).toInt ≤ 1000000000 := c3
  generalize wkN M V B (orF M f w t sh nr yn k) f w l 22 = a at *
  generalize wkN M V B (orF M f w t sh nr yn k) f w l 17 = b at *
  generalize wkN M V B (orF M f w t sh nr yn k) f w l 2 = c at *
  have hkp : k * pr ≤ 24 * 100000 := Nat.mul_le_mul (by omega) hp
  have hm : (Int32.toInt64 (nI k) * Int32.toInt64 (nI pr)).toInt = ((k * pr : Nat) : Int) := by
    rw [Int64.toInt_mul, l64 (by omega), l64 (by omega), ← Int.natCast_mul]
    exact Int.bmod_eq_of_le (by omega) (by omega)
  rw [i64_sub (by omega) (by rw [i64_sub (by rw [i64_sub (by omega) (by omega)]; omega) (by omega), i64_sub (by omega) (by omega)]; omega), i64_sub (by rw [i64_sub (by omega) (by omega)]; omega) (by omega), i64_sub (by omega) (by omega)]
  omega
theorem roN_E {M' : SM} (et : Eq1 sTn M M') (m : Int32) {w : Nat} : ∀ f, f ≤ 16 → roN M' m w f = roN M m w f
  | 0, _ => rfl
  | f + 1, h => by
    rw [roN_s, roN_s, roN_E et m f (by omega), et 184 f (by unfold sTn; omega), et (187 + f) w (by unfold sTn; omega)]
def sOr (c i : Nat) : Prop := (c = 12 ∧ i = 8) ∨ (c = 244 ∧ i ≤ 7) ∨ c = 245 ∨ c = 269 ∨ (c = 280 ∧ 68 ≤ i ∧ i ≤ 75) ∨ c = 318 ∨ c = 319 ∨ c = 326 ∨ c = 327
def sOrL (c : Nat) : Prop := (175 ≤ c ∧ c ≤ 178) ∨ (247 ≤ c ∧ c ≤ 268) ∨ c = 280 ∨ (307 ≤ c ∧ c ≤ 309) ∨ c = 328 ∨ c = 329
def sJu (c i : Nat) : Prop := sOr c i ∨ (c = 1 ∧ i = 1) ∨ (c = 280 ∧ i = 13)
def orP (M : SM) (m sh dz nr yn pr : Nat) : Prop := (m < msM M ∧ sh ≤ 9 ∧ dz ≤ 60 ∧ nr ≤ 40 ∧ yn ≤ 99 ∧ pr ≤ 100000) ∧ (M.1 244 1 = nI m ∧ M.1 244 2 = nI sh ∧ M.1 244 3 = nI dz ∧ M.1 244 4 = nI nr ∧ M.1 244 5 = nI yn ∧ M.1 244 6 = nI pr) ∧ M.1 280 69 = nI m ∧ M.1 280 70 = nI sh ∧ M.1 280 71 = nI dz ∧ M.1 280 72 = nI nr ∧ M.1 280 73 = nI yn ∧ M.1 280 74 = nI pr
def I_or (M : SM) : Prop := ((M.1 244 0 = 0 ∧ M.1 280 68 = 0) ∨ (M.1 244 0 = 1 ∧ M.1 280 68 = 1 ∧ ∃ m sh dz nr yn pr, orP M m sh dz nr yn pr)) ∧ (∀ i, i < 16 → M.1 327 i = M.1 269 i) ∧ ∀ i, frM M ≤ i → i < 16 → M.1 269 i = 0
def Rw (L : List Nat) (i : Nat) : Nat := L.getD i 0
theorem Rw_g {L : List Nat} {i : Nat} (h : i < L.length) : L[i]? = some (Rw L i) := by
  unfold Rw
  rw [List.getD_eq_getElem?_getD, List.getElem?_eq_getElem h]
  rfl
theorem Rw_m {L : List Nat} {i : Nat} (h : i < L.length) : Rw L i ∈ L := List.mem_of_getElem? (Rw_g h)
/-- the gains of an order's rows -/
def gOr (M : SM) (V : Nat → FA → LE) (B : Nat → FA → LE → Int64) (m sh nr yn pr : Nat) (i k : Nat) : Int64 := gaN M V B (nwM M) (M.1 179 0) (M.1 (204 + m) (nwM M)) sh nr yn pr (Rw (roN M (nI m) (nwM M) (frM M)) i) k
def nOr (M : SM) (m : Nat) : Nat := (roN M (nI m) (nwM M) (frM M)).length
theorem Rw_ok (ht : I_tn M) {m i : Nat} (h : i < nOr M m) : Rw (roN M (nI m) (nwM M) (frM M)) i < frM M := by
  exact ((roN_10 M (nI m) (nwM M) (frM M)).2 _ (Rw_m h)).1
theorem gOr_B (m sh nr yn : Nat) {pr : Nat} (hp : pr ≤ 100000) (N : Nat) : gB (gOr M V B m sh nr yn pr) N := fun i k _ hk => gaN_bd _ _ _ _ _ _ _ hp hk
/-- the class' rows, from a memory that agrees with the first on what rows speak of -/
theorem fillOr_g (ht : I_tn M) (he : I_en M) (hu : I_us M) (hp : PR M V B) {Ma : SM} (et : Eq1 sTn M Ma) (ee : Eq1 sEn M Ma) (ep : Eq1 sPr M Ma) (eu : Eq1 sUs M Ma) {m sh dz nr yn pr : Nat} (hm : m < msM M) (x1 : Ma.1 244 1 = nI m) (x2 : Ma.1 244 2 = nI sh) (x3 : Ma.1 244 3 = nI dz) (x4 : Ma.1 244 4 = nI nr) (x5 : Ma.1 244 5 = nI yn) (x6 : Ma.1 244 6 = nI pr) :
    ∃ M' : SM, qfr_fillGains Ma = some ((), M') ∧ oG Ma M' ∧ bG M' (gOr M V B m sh nr yn pr) (nOr M m) dz ∧ ∀ i, i < nOr M m → M'.1 245 i = nI (Rw (roN M (nI m) (nwM M) (frM M)) i) := by
  have fs := ht.fs
  have an := ht.nw
  have am := ht.ms
  obtain ⟨M1, a1, a2, a3, a4, a5⟩ := fillGains_g (ht.fr et) (he.fr ee) (hu.fr eu) (hp.fr hu.1.2.1 ep) (m := m) (by rw [msM_E et]; exact hm) x1 x2 x4 x5 x6
  rw [nwM_E et, frM_E et, roN_E et _ _ fs.2.1] at a3 a4 a5
  rw [et 179 0 (by unfold sTn; omega), eu (204 + m) _ (by unfold sUs; omega)] at a5
  refine ⟨M1, a1, a2, ⟨a3, by rw [a2.1 244 3 (by omega)]; exact x3, fun i k hi hk => ?_⟩, fun i hi => a4 i _ (Rw_g hi)⟩
  have hx := Rw_ok ht hi
  rw [a5 i _ (Rw_g hi) k hk, gaN_E hp et ee ep (by omega) fs.2.1]
  rfl
theorem weighOr_g (ht : I_tn M) (he : I_en M) (hu : I_us M) (hp : PR M V B) {Ma : SM} (et : Eq1 sTn M Ma) (ee : Eq1 sEn M Ma) (ep : Eq1 sPr M Ma) (eu : Eq1 sUs M Ma) {m sh nr yn pr : Nat} (hm : m < msM M) (x1 : Ma.1 280 69 = nI m) (x2 : Ma.1 280 70 = nI sh) (x4 : Ma.1 280 72 = nI nr) (x5 : Ma.1 280 73 = nI yn) (x6 : Ma.1 280 74 = nI pr) :
    ∃ M' : SM, qmd_weighs Ma = some ((), M') ∧ oH Ma M' ∧ rG M' (gOr M V B m sh nr yn pr) (nOr M m) ∧ ∀ i, i < nOr M m → M'.1 326 i = nI (Rw (roN M (nI m) (nwM M) (frM M)) i) := by
  have fs := ht.fs
  have an := ht.nw
  have am := ht.ms
  obtain ⟨M1, a1, a2, a3, a4, a5⟩ := weighs_g (ht.fr et) (he.fr ee) (hu.fr eu) (hp.fr hu.1.2.1 ep) (m := m) (by rw [msM_E et]; exact hm) x1 x2 x4 x5 x6
  rw [nwM_E et, frM_E et, roN_E et _ _ fs.2.1] at a3 a4 a5
  rw [et 179 0 (by unfold sTn; omega), eu (204 + m) _ (by unfold sUs; omega)] at a5
  refine ⟨M1, a1, a2, ⟨a3, fun i k hi hk => ?_⟩, fun i hi => a4 i _ (Rw_g hi)⟩
  have hx := Rw_ok ht hi
  rw [a5 i _ (Rw_g hi) k hk, gaN_E hp et ee ep (by omega) fs.2.1]
  rfl
theorem share_p (ht : I_tn M) (ho : I_or M) (x : Int32) : Pr M (qfr_share x) (qmd_share x) (fun M2 => M2 = M) := by
  have fs := ht.fs
  rcases ix x (frM M) (by omega) with ⟨f, hf, rfl⟩ | hb
  · refine Pr.mk (r := M.1 269 f) (M1 := M) (M2 := M) ?_ ?_ rfl
    · unfold qfr_share qod_shareOf
      rw [if_neg (nI_lt0 (by omega)), if_pos (show nI f < (16 : Int32) from nI_lt (b := 16) (by omega) (by decide)), ck_ib (by omega) (by omega), ck_t, nI_cl (by omega), ob_s]
    · unfold qmd_share
      rw [md_isFrame_g ht hf, ob_s, if_neg (by decide), ck_ib (by omega) (by omega), ck_t, nI_cl (by omega), ho.2.1 f (by omega)]
  · refine Pr.mk (r := 0) (M1 := M) (M2 := M) ?_ ?_ rfl
    · unfold qfr_share qod_shareOf
      by_cases h0 : x < 0
      · rw [if_pos h0, ob_s]
      · rw [if_neg h0]
        obtain ⟨f, hf, rfl⟩ := nI_of h0
        by_cases h16 : f < 16
        · rw [if_pos (show nI f < (16 : Int32) from nI_lt (b := 16) (by omega) (by decide)), ck_ib (by omega) (by omega), ck_t, nI_cl (by omega), ob_s, ho.2.2 f (by
            rcases hb with hb | hb
            · exact absurd hb h0
            · rw [nI_ltN (by omega) (by omega)] at hb; omega) h16]
        · rw [if_neg (show ¬ nI f < (16 : Int32) from nI_nlt (b := 16) (by omega) hf), ob_s]
    · unfold qmd_share
      rw [md_isFrame_b ht hb, ob_s, if_pos rfl]
end
