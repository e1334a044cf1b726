/-! a list read whole in the reference; list -/
def sLr (L c i : Nat) : Prop := rlR c i ∨ (c = 280 ∧ ((13 ≤ i ∧ i ≤ 15) ∨ i = 27)) ∨ c = 295 ∨ (c = 296 ∧ 220 * L ≤ i ∧ i < 220 * L + 220) ∨ (c = 297 ∧ i = L) ∨ s3r L c i
theorem cnt_t : ∀ n, cnt (fun _ => true) n = n
  | 0 => rfl
  | n + 1 => by show cnt _ n + (if true = true then 1 else 0) = _; rw [cnt_t n, if_pos rfl]
section
variable {n : Nat} {sg : Nat → Nat}
theorem gOk_c {fs : List FE} {ds : List yL} (hg : gOk fs ds n) {k : Nat} {t : FE} {c : yL} (h1 : fs[k]? = some t) (h2 : ds[k]? = some c) : yCp (dsO ds k) c t.2.2 := hg.2.2 k t c h1 h2
theorem gOk_o {fs : List FE} {ds : List yL} (hg : gOk fs ds n) (hn : n ≤ 200) : ∀ t ∈ ds.flatten, yOc 1000 t := fun t ht => by
  obtain ⟨c, hc, htc⟩ := List.mem_flatten.mp ht
  obtain ⟨k, hk⟩ := List.getElem?_of_mem hc
  have hkl : k < ds.length := by
    by_cases z : k < ds.length
    · exact z
    · rw [List.getElem?_eq_none (by omega)] at hk; cases hk
  have hu : fs[k]? = some (fs[k]'(by have := hg.1; omega)) := List.getElem?_eq_getElem (by have := hg.1; omega)
  have h1 := (gOk_c hg hu hk).2.1 t htc
  have h2 := dsO_s hk
  have h3 := dsO_le (ds := ds) (k + 1)
  have h4 := hg.2.1
  exact yOc_up h1 (by omega)
theorem isFree_g {fs : List FE} {ds : List yL} {M : SM} (hm : mM M fs ds) (hf : fOk fs n) (hpos : 0 < fs.length) (hg : gOk fs ds n) (hn : n ≤ 200) (hos2 : ∀ t ∈ fs, ∀ u ∈ t.2.2, yOs u) (hpl2 : ∀ t ∈ fs, t.2.1 ≤ 200) :
    ∃ (r : Int32) (M' : SM), qmd_isFree M = some (r, M') ∧ Ou (fun c i => c = 295 ∨ (c = 280 ∧ i = 16)) M M' ∧ match rgO fs with
      | some i => r = 0 ∧ flt M' (6, plF fs i)
      | none => r = 1 ∧ (∀ i q, i < fs.length → q < fs.length → (65, ltr fs q) ∈ stF fs i → cnt (bt (M'.1 295 q)) 10 < cnt (bt (M'.1 295 i)) 10) ∧ ∀ i, i < fs.length → cnt (bt (M'.1 295 i)) 10 < 10 := by
  obtain ⟨h10, h26, hnd, hl⟩ := hf
  obtain ⟨m1, m2, m3, m4⟩ := id hm
  have hoc := gOk_o hg hn
  have h200 : ds.flatten.length ≤ 200 := by have := hg.2.1; omega
  have hN : rN M fs.length (ltr fs) := ⟨m2, h10, fun i hi => by
    have hu : fs[i]? = some fs[i] := List.getElem?_eq_getElem hi
    exact ⟨by rw [(m3 i _ hu).1, ltr_e hu], ltr_26 h26 hi⟩⟩
  obtain ⟨M1, f1, f2, f3⟩ := iF_L2 (K := fun M16 => qmd_isFree_L113 (fun M28 =>
    qmd_isFree_L192 (fun y1_32 M33 =>
      ck (ib 10 y1_32 && true) (
        ob (qmd_wrong (6 : Int32) (M33.1 293 (Int32.toNatClampNeg y1_32)) M33) (fun r35 M36 =>
        ck (decide (r35 = 0) || decide (r35 = 1)) (some (r35, M36))))) FU (0 : Int32) M28) FU (0 : Int32) M16) hg.1 (fun t ht => by have := hoc t ht; unfold yOc at this; omega) h200 fs.length FU 0 M (by omega) (by unfold FU; omega) (by omega) hN m1 (fun k hk => m4 hpos k hk) (fun i x hi => by omega)
  have hN1 : rN M1 fs.length (ltr fs) := hN.fr f2 (fun c i z => by unfold s295 at z; omega)
  obtain ⟨M2, g1, g2, g3⟩ := iF_L113 (l := ltr fs) (K := fun M28 =>
    qmd_isFree_L192 (fun y1_32 M33 =>
      ck (ib 10 y1_32 && true) (
        ob (qmd_wrong (6 : Int32) (M33.1 293 (Int32.toNatClampNeg y1_32)) M33) (fun r35 M36 =>
        ck (decide (r35 = 0) || decide (r35 = 1)) (some (r35, M36))))) FU (0 : Int32) M28) 10 FU 0 M1 (by omega) (by unfold FU; omega) (by omega) hN1
  have hN2 : rN M2 fs.length (ltr fs) := hN1.fr g2 (fun c i z => by unfold s295 at z; omega)
  have o12 : Ou s295 M M2 := f2.tr g2
  have hD : ∀ i q, i < fs.length → q < fs.length → dB fs i q = btM M1 295 i ((fun j => j) q) := fun i q hi hq => by
    have hu : fs[i]? = some fs[i] := List.getElem?_eq_getElem hi
    have hc : ds[i]? = some (ds[i]'(by have := hg.1; omega)) := List.getElem?_eq_getElem (by have := hg.1; omega)
    show dB fs i q = btM M1 295 i q
    rw [f3 i q hi (by omega)]
    unfold rnE
    rw [hc]
    dsimp only
    have e1 := dB_iff hos2 h26 hi hq
    have e2 := (gOk_c hg hu hc).2.2.2 (ltr fs q)
    rw [stF_e hu, ← e2] at e1
    apply Bool.eq_iff_iff.mpr
    rw [e1, decide_eq_true_eq]
    exact ⟨fun h => ⟨hq, h⟩, fun h => h.2⟩
  have hsame : ∀ i q, i < fs.length → q < fs.length → btM M2 295 i q = sPt (dB fs) fs.length (fs.length - 1) i q := fun i q hi hq => by
    rw [g3]; exact nKP_l (l := fun j => j) _ _ hD h10 hi hq
  have hL := iF_L192 (K := fun y1_32 M33 =>
      ck (ib 10 y1_32 && true) (
        ob (qmd_wrong (6 : Int32) (M33.1 293 (Int32.toNatClampNeg y1_32)) M33) (fun r35 M36 =>
        ck (decide (r35 = 0) || decide (r35 = 1)) (some (r35, M36))))) hN2 fs.length FU 0 (by omega) (by unfold FU; omega) (by omega)
  have he : fstI (fun i => btM M2 295 i i) fs.length 0 = rgO fs := fstI_ext _ _ (fun k _ hk => hsame k k (by omega) (by omega))
  rw [he] at hL
  have run : qmd_isFree M = (match rgO fs with | none => some (1, M2) | some i => (ck (ib 10 (nI i) && true) (
        ob (qmd_wrong (6 : Int32) (M2.1 293 (Int32.toNatClampNeg (nI i))) M2) (fun r35 M36 =>
        ck (decide (r35 = 0) || decide (r35 = 1)) (some (r35, M36)))))) := by
    unfold qmd_isFree
    refine Eq.trans f1 ?_
    refine Eq.trans g1 ?_
    exact hL
  rw [run]
  cases hr : rgO fs with
  | some i =>
    obtain ⟨-, hi⟩ := fstI_s _ _ _ hr
    have hu : fs[i]? = some fs[i] := List.getElem?_eq_getElem (by omega)
    have e293 : M2.1 293 i = nI (plF fs i) := by rw [o12.1 293 i (by unfold s295; omega), (m3 i _ hu).2, plF_e hu]
    dsimp only
    rw [ck_ib (by omega) (by omega), ck_t, nI_cl (by omega), e293]
    refine ⟨0, _, rfl, (o12.mono (fun c i z => Or.inl z)).tr ((Ou.rf _ _).wI (Or.inr ⟨rfl, rfl⟩)), rfl, ?_⟩
    show (wI M2 280 16 _).1 280 16 = _
    rw [wI_1, if_pos ⟨rfl, rfl⟩]
    rfl
  | none =>
    have hac : ∀ i, i < fs.length → sPt (dB fs) fs.length (fs.length - 1) i i = false := fun i hi => fstI_n _ _ hr i (by omega) (by omega)
    refine ⟨1, M2, rfl, o12.mono (fun c i z => Or.inl z), rfl, fun i q hi hq hin => ?_, fun i hi => ?_⟩
    · have h1 : sPt (dB fs) fs.length (fs.length - 1) i q = true := sPt_0 ((dB_iff hos2 h26 hi hq).mpr hin) _
      have := nKP_r (l := fun j => j) (N := 10) (btM M1 295) (dB fs) hD h10 hi hq (by omega) h1 (hac q hq)
      rw [← g3] at this
      exact this
    · have h1 : ¬ bt (M2.1 295 i) i = true := by
        have := hsame i i hi hi
        rw [hac i hi] at this
        show ¬ btM M2 295 i i = true
        rw [this]; decide
      have := cnt_lt (f := bt (M2.1 295 i)) (g := fun _ => true) (x := i) 10 (fun _ _ _ => rfl) (by omega) rfl h1
      rw [cnt_t] at this
      exact this
theorem mlist_g (hE : ∀ p, n ≤ p → sg p = 999) (h256 : ∀ p, p < n → sg p < 256) {M : SM} {T L : Nat} (hT : M.1 280 13 = nI T) (hT2 : T ≤ 200) (hn1 : 1 ≤ n) (hn : n ≤ T) (h27 : M.1 280 27 = nI L) (hL : L < 10) (ht : tR M sg n) :
    ∃ (r : Int32) (M' : SM), qmd_list (nI n) M = some (r, M') ∧ Ou (sLr L) M M' ∧ M'.1 280 13 = 0 ∧ match yLs sg n (n + 1) [] 0 with
      | Sum.inl g => r = ((-1000 : Int32) * nI g.1) - nI g.2 ∧ M'.1 280 27 = nI L
      | Sum.inr fs => match rgO fs with
        | some i => r = ((-1000 : Int32) * nI 6) - nI (plF fs i) ∧ M'.1 280 27 = nI L
        | none => r = nI L ∧ M'.1 280 27 = nI (L + 1) ∧ ∃ ds rk, gOk fs ds n ∧ rkOk fs rk 10 ∧ mD M' L fs ds (orL rk fs.length 10) := by
  have hn200 := ht.1
  generalize hM0 : wI (wI (wI (wI M 280 14 (0 : Int32)) 280 15 (nI n)) 280 18 (0 : Int32)) 280 20 (0 : Int32) = M0
  have g : ∀ c i, M0.1 c i = if c = 280 ∧ i = 20 then 0 else if c = 280 ∧ i = 18 then 0 else if c = 280 ∧ i = 15 then nI n else if c = 280 ∧ i = 14 then 0 else M.1 c i := fun c i => by rw [← hM0, wI_1, wI_1, wI_1, wI_1]
  have o0 : Ou (sLr L) M M0 := ⟨fun c i q => by unfold sLr rlR rpR at q; rw [g, if_neg (by omega), if_neg (by omega), if_neg (by omega), if_neg (by omega)], by rw [← hM0]; rfl⟩
  have ht0 : tR M0 sg n := ⟨ht.1, fun p hp => by rw [o0.1 289 p (by unfold sLr rlR rpR s3r; omega)]; exact ht.2 p hp⟩
  have hm0 : mM M0 [] [] := ⟨⟨by rw [g, if_neg (by omega), if_pos ⟨rfl, rfl⟩]; rfl, fun i t hi => by cases hi⟩, by rw [g, if_pos ⟨rfl, rfl⟩]; rfl, (fun k t hk => by cases hk), fun h => absurd h (by decide)⟩
  have hf0 : fOk [] 0 := ⟨by simp, fun t ht => by simp at ht, by simp, Nat.le_refl _⟩
  have hg0 : gOk [] [] 0 := ⟨rfl, Nat.le_refl _, fun k t c hk => by cases hk⟩
  obtain ⟨r1, M1, x1, x2, x3⟩ := listL_g hE h256 (K := fun y2_27 M28 =>
        if y2_27 = 0 then
          (some ((M28.1 280 16), (wI M28 280 13 (0 : Int32)))) else
          (ob (qmd_isFree (wI M28 280 13 (0 : Int32))) (fun r29 M30 =>
            if r29 = 0 then
            (some ((M30.1 280 16), M30)) else
            (qmd_list_L150 (fun M34 =>
              qmd_list_L190 (fun M45 =>
                ck (ib 10 (M45.1 280 27) && true) (
                  some ((((M45.1 280 27) + (1 : Int32)) - (1 : Int32)), (wI (wI M45 297 (Int32.toNatClampNeg (M45.1 280 27)) (M45.1 280 20)) 280 27 ((M45.1 280 27) + (1 : Int32)))))) FU (0 : Int32) (0 : Int32) M34) FU (0 : Int32) M30)))) (n + 1) FU 0 M0 [] [] (by omega) (by unfold FU; omega) ht0 (by omega) (by rw [g, if_neg (by omega), if_neg (by omega), if_neg (by omega), if_pos ⟨rfl, rfl⟩]; rfl) (by rw [g, if_neg (by omega), if_neg (by omega), if_pos ⟨rfl, rfl⟩]) hm0 hf0 hg0 (fun r hr => (fOk_s hE hf0 (by omega) hr).2.2) (fun fs' q r h1 h2 h3 => (fOk_s hE h1 h2 h3).2.2)
  have o1 : Ou (sLr L) M M1 := o0.tr (x2.mono (fun c i z => Or.inl z))
  have o2 : Ou (sLr L) M (wI M1 280 13 (0 : Int32)) := o1.wI (by unfold sLr; omega)
  have e13 : (wI M1 280 13 (0 : Int32)).1 280 13 = 0 := by rw [wI_1, if_pos ⟨rfl, rfl⟩]
  have e27 : (wI M1 280 13 (0 : Int32)).1 280 27 = nI L := by rw [wI_1, if_neg (by omega), x2.1 280 27 (by unfold rlR rpR; omega), g, if_neg (by omega), if_neg (by omega), if_neg (by omega), if_neg (by omega)]; exact h27
  have run : qmd_list (nI n) M = (if r1 = 0 then
          (some ((M1.1 280 16), (wI M1 280 13 (0 : Int32)))) else
          (ob (qmd_isFree (wI M1 280 13 (0 : Int32))) (fun r29 M30 =>
            if r29 = 0 then
            (some ((M30.1 280 16), M30)) else
            (qmd_list_L150 (fun M34 =>
              qmd_list_L190 (fun M45 =>
                ck (ib 10 (M45.1 280 27) && true) (
                  some ((((M45.1 280 27) + (1 : Int32)) - (1 : Int32)), (wI (wI M45 297 (Int32.toNatClampNeg (M45.1 280 27)) (M45.1 280 20)) 280 27 ((M45.1 280 27) + (1 : Int32)))))) FU (0 : Int32) (0 : Int32) M34) FU (0 : Int32) M30)))) := by
    unfold qmd_list
    rw [md_in_t (show ¬ nI n < (1 : Int32) from nI_nlt (a := n) (b := 1) hn1 (by omega)) (show ¬ (200 : Int32) < nI n from nI_nlt (a := 200) (b := n) (by omega) (by omega)), ob_s, if_neg (by decide), hT, if_neg (nI_nlt hn (by omega)), h27, if_neg (show ¬ nI L = (10 : Int32) from fun z => by have := nI_inj (b := 10) (by omega) (by omega) z; omega), hM0]
    exact x1
  rw [run]
  cases hy : yLs sg n (n + 1) [] 0 with
  | inl gg =>
    rw [hy] at x3
    rw [if_pos x3.1]
    exact ⟨_, _, rfl, o2, e13, x3.2, e27⟩
  | inr fs =>
    rw [hy] at x3
    obtain ⟨w1, ds, w2, w3⟩ := x3
    obtain ⟨hfO, hall⟩ := yLs_t hE (n + 1) [] 0 fs (by omega) (by omega) hf0 (fun t ht => by simp at ht) hy
    have hpos := (yLs_1 hE (n + 1) [] 0 fs hy).1
    have hm1 : mM (wI M1 280 13 (0 : Int32)) fs ds := by
      obtain ⟨a1, a2, a3, a4⟩ := w2
      refine ⟨a1.fr (s := fun c i => c = 280 ∧ i = 13) ((Ou.rf _ _).wI ⟨rfl, rfl⟩) (fun c i z => by omega), ?_, fun k t hk => ?_, fun h k hk => ?_⟩
      · rw [wI_1, if_neg (by omega)]; exact a2
      · rw [wI_1, if_neg (by omega), wI_1, if_neg (by omega)]; exact a3 k t hk
      · rw [wI_1, if_neg (by omega)]; exact a4 h k hk
    obtain ⟨r2, M2, z1, z2, z3⟩ := isFree_g hm1 hfO hpos w3 (by omega) (fun t ht => (hall t ht).2) (fun t ht => by have := (hall t ht).1; omega)
    have o3 : Ou (sLr L) M M2 := o2.tr (z2.mono (fun c i z => by unfold sLr rlR rpR; omega))
    rw [if_neg (by rw [w1]; decide), z1, ob_s]
    dsimp only
    cases hr : rgO fs with
    | some i =>
      rw [hr] at z3
      rw [if_pos z3.1]
      exact ⟨_, _, rfl, o3, by rw [z2.1 280 13 (by omega)]; exact e13, z3.2, by rw [z2.1 280 27 (by omega)]; exact e27⟩
    | none =>
      rw [hr] at z3
      obtain ⟨v1, v2, v3⟩ := z3
      rw [if_neg (by rw [v1]; decide)]
      have hlen : ds.flatten.length ≤ 200 := by have := w3.2.1; omega
      have hA2 : rA M2 ds.flatten := hm1.1.fr z2 (fun c i z => by omega)
      have e27' : M2.1 280 27 = nI L := by rw [z2.1 280 27 (by omega)]; exact e27
      obtain ⟨M3, c1, c2, c3⟩ := lC_L150 (K := fun M34 =>
              qmd_list_L190 (fun M45 =>
                ck (ib 10 (M45.1 280 27) && true) (
                  some ((((M45.1 280 27) + (1 : Int32)) - (1 : Int32)), (wI (wI M45 297 (Int32.toNatClampNeg (M45.1 280 27)) (M45.1 280 20)) 280 27 ((M45.1 280 27) + (1 : Int32)))))) FU (0 : Int32) (0 : Int32) M34) hL hlen ds.flatten.length FU 0 M2 (by omega) (by unfold FU; omega) (by omega) hA2 e27' (fun j t hj => by omega)
      have o23 : Ou (fun c i => c = 295 ∨ (c = 280 ∧ i = 16) ∨ (c = 296 ∧ 220 * L ≤ i ∧ i < 220 * L + 220)) (wI M1 280 13 (0 : Int32)) M3 := (z2.mono (fun c i z => by omega)).tr (c2.mono (fun c i z => by omega))
      have hN3 : rN M3 fs.length (ltr fs) := ⟨by rw [o23.1 280 20 (by omega)]; exact hm1.2.1, hfO.1, fun i hi => by
        have hu : fs[i]? = some fs[i] := List.getElem?_eq_getElem hi
        exact ⟨by rw [o23.1 292 i (by omega), (hm1.2.2.1 i _ hu).1, ltr_e hu], ltr_26 hfO.2.1 hi⟩⟩
      obtain ⟨M4, d1, d2, d3⟩ := lO_L190 (K := fun M45 =>
                ck (ib 10 (M45.1 280 27) && true) (
                  some ((((M45.1 280 27) + (1 : Int32)) - (1 : Int32)), (wI (wI M45 297 (Int32.toNatClampNeg (M45.1 280 27)) (M45.1 280 20)) 280 27 ((M45.1 280 27) + (1 : Int32)))))) hL (off := dsO ds) (fun i => cnt (bt (M2.1 295 i)) 10) 10 FU 0 M3 (by omega) (by unfold FU; omega) (by omega) hN3 (by rw [c2.1 280 27 (by omega)]; exact e27') (fun k hk => by rw [o23.1 294 k (by omega)]; exact hm1.2.2.2 hpos k hk) (fun i hi => by rw [c2.1 295 i (by omega)]) (fun k t hk => by cases hk)
      have e27'' : M4.1 280 27 = nI L := by rw [d2.1 280 27 (by unfold s3r; omega), c2.1 280 27 (by omega)]; exact e27'
      have e20 : M4.1 280 20 = nI fs.length := by rw [d2.1 280 20 (by unfold s3r; omega)]; exact hN3.1
      have run2 : (qmd_list_L150 (fun M34 =>
              qmd_list_L190 (fun M45 =>
                ck (ib 10 (M45.1 280 27) && true) (
                  some ((((M45.1 280 27) + (1 : Int32)) - (1 : Int32)), (wI (wI M45 297 (Int32.toNatClampNeg (M45.1 280 27)) (M45.1 280 20)) 280 27 ((M45.1 280 27) + (1 : Int32)))))) FU (0 : Int32) (0 : Int32) M34) FU (0 : Int32) M2) = some (nI L, wI (wI M4 297 L (nI fs.length)) 280 27 (nI (L + 1))) := by
        refine Eq.trans c1 ?_
        refine Eq.trans d1 ?_
        rw [e27'', ck_ib (by omega) (by omega), ck_t, nI_cl (by omega), e20, nI_1, nI_m1 (by omega), Nat.add_sub_cancel]
      have g5 : ∀ c i, (wI (wI M4 297 L (nI fs.length)) 280 27 (nI (L + 1))).1 c i = if c = 280 ∧ i = 27 then nI (L + 1) else if c = 297 ∧ i = L then nI fs.length else M4.1 c i := fun c i => by rw [wI_1, wI_1]
      have o4 : Ou (sLr L) M (wI (wI M4 297 L (nI fs.length)) 280 27 (nI (L + 1))) := ((((o3.tr (c2.mono (fun c i z => by unfold sLr rlR rpR; omega))).tr (d2.mono (fun c i z => Or.inr (Or.inr (Or.inr (Or.inr (Or.inr z))))))).wI (by unfold sLr; omega))).wI (by unfold sLr; omega)
      refine ⟨_, _, run2, o4, ?_, rfl, by rw [g5, if_pos ⟨rfl, rfl⟩], ds, fun i => cnt (bt (M2.1 295 i)) 10, w3, ⟨fun k q hk hq h => v2 k q hk hq h, v3⟩, ⟨by rw [g5, if_neg (by omega), if_pos ⟨rfl, rfl⟩], fun j t hj => ?_, fun k t hk => ?_⟩⟩
      · rw [g5, if_neg (by omega), if_neg (by omega), d2.1 280 13 (by unfold s3r; omega), o23.1 280 13 (by omega)]; exact e13
      · rw [g5, if_neg (by omega), if_neg (by omega), d2.1 296 _ (by unfold s3r; omega)]; exact c3 j t hj
      · rw [g5, if_neg (by omega), if_neg (by omega), g5, if_neg (by omega), if_neg (by omega), g5, if_neg (by omega), if_neg (by omega)]
        exact d3 k t hk
end
