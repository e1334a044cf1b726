/-! list -/
def sLi (c i : Nat) : Prop := (c = 1 ∧ i = 1) ∨ c = 3 ∨ (c = 12 ∧ (i = 2 ∨ i = 3)) ∨ (15 ≤ c ∧ c ≤ 174) ∨ (c = 280 ∧ ((13 ≤ i ∧ i ≤ 20) ∨ i = 27 ∨ i = 28)) ∨ (290 ≤ c ∧ c ≤ 306)
theorem wipe_g (M : SM) : qtp_wipe M = some ((), wI M 1 1 0) := rfl
/-- what a list may write -/
def sL1 (L c i : Nat) : Prop := s3s (15 + 16 * L) c i ∨ sLr L c i ∨ (c = 1 ∧ i = 1) ∨ (c = 12 ∧ i = 2)
theorem sL1_i {L c i : Nat} (hL : L < 10) (h : sL1 L c i) : sLi c i := by
  unfold sL1 s3s sLr rlR rpR s3r at h
  unfold sLi
  omega
section
variable {M : SM} {V : Nat → FA → LE} {B : Nat → FA → LE → Int64}
theorem PR.ls (hp : PR M V B) (hl10 : lsM M ≤ 10) {M2 : SM} {L : Nat} (hL : L < 10) (o : Ou (sL1 L) M M2) : (M2.1 12 3 = nI (acM M) ∧ acM M ≤ 10 ∧ M2.1 280 28 = nI (acM M) ∧ acM M2 = acM M) ∧ (∀ l, l < lsM M → l ≠ L → CLs M2 (15 + 16 * l) (V l) ∧ MLs M2 l (V l) ∧ exV (V l) ∧ M2.1 297 l = M2.1 (15 + 16 * l) 3) ∧ ∀ a, a < acM M → CAs M2 (23 + 16 * a) (B a) ∧ MAs M2 a (B a) ∧ exB (B a) ∧ acR M2 a := by
  obtain ⟨h1, h2, h3⟩ := hp
  have e3 : M2.1 12 3 = M.1 12 3 := o.1 12 3 (by unfold sL1 s3s sLr rlR rpR s3r; omega)
  refine ⟨⟨e3.trans h1.1, h1.2.1, by rw [o.1 280 28 (by unfold sL1 s3s sLr rlR rpR s3r; omega)]; exact h1.2.2, by unfold acM; rw [e3]⟩, fun l hl hne => ?_, fun a ha => ?_⟩
  · obtain ⟨a1, a2, a3, a4⟩ := h2 l hl
    have hl' : l < 10 := by omega
    refine ⟨a1.fr fun c i q1 q2 => o.1 c i (by unfold sL1 s3s sLr rlR rpR s3r; omega), a2.fr fun c i q => o.1 c i (by unfold rLs at q; unfold sL1 s3s sLr rlR rpR s3r; omega), a3, ?_⟩
    rw [o.1 297 l (by unfold sL1 s3s sLr rlR rpR s3r; omega), o.1 (15 + 16 * l) 3 (by unfold sL1 s3s sLr rlR rpR s3r; omega)]
    exact a4
  · obtain ⟨a1, a2, a3, a4⟩ := h3 a ha
    have ha10 : a < 10 := by omega
    refine ⟨a1.fr fun c i q1 q2 => o.1 c i (by unfold sL1 s3s sLr rlR rpR s3r; omega), a2.fr fun c i q => o.1 c i (by unfold rAs at q; unfold sL1 s3s sLr rlR rpR s3r; omega), a3, ?_⟩
    have r : ∀ c i, (23 + 16 * a ≤ c ∧ c ≤ 30 + 16 * a ∨ 303 ≤ c ∧ c ≤ 306) → M2.1 c i = M.1 c i := fun c i q => o.1 c i (by unfold sL1 s3s sLr rlR rpR s3r; omega)
    unfold acR
    rw [r _ _ (by omega), r _ _ (by omega), r _ _ (by omega), r _ _ (by omega), r _ _ (by omega), r _ _ (by omega), r _ _ (by omega), r _ _ (by omega), r _ _ (by omega)]
    exact a4
theorem I_tp.w (htp : I_tp M) {M2 : SM} (e1 : M2.1 1 1 = 0) (e2 : M2.1 280 13 = 0) (e3 : ∀ i, M2.1 2 i = M.1 2 i) (e4 : ∀ i, M2.1 289 i = M.1 289 i) : I_tp M2 := by
  have e0 : taM M2 = 0 := by unfold taM; rw [e1]; rfl
  unfold I_tp
  rw [e0]
  exact ⟨⟨e1, by omega, e2⟩, fun i hi => by rw [e3, e4]; exact htp.2 i hi⟩
theorem orL_27 {fs : List FE} {rk : Nat → Nat} {R : Nat} (h : rkOk fs rk R) : (orL rk fs.length R).length = fs.length := by
  rw [orL_len, cnt_ext (g := fun _ => true) _ (fun k hk => blt_iff.mpr (h.2 k hk)), cnt_t]
theorem ltr_inj {fs : List FE} (h : (fs.map (fun t => t.1)).Nodup) {i j : Nat} (hi : i < fs.length) (hj : j < fs.length) (e : ltr fs i = ltr fs j) : i = j := by
  have hp := List.pairwise_iff_getElem.mp h
  rw [ltr_e (List.getElem?_eq_getElem hi), ltr_e (List.getElem?_eq_getElem hj)] at e
  have key : ∀ a b, (ha : a < fs.length) → (hb : b < fs.length) → a < b → fs[a].1 = fs[b].1 → False := fun a b ha hb hab he => by
    have := hp a b (by rw [List.length_map]; exact ha) (by rw [List.length_map]; exact hb) hab
    rw [List.getElem_map, List.getElem_map] at this
    exact this he
  by_cases q1 : i < j
  · exact (key i j hi hj q1 e).elim
  · by_cases q2 : j < i
    · exact (key j i hj hi q2 e.symm).elim
    · omega
/-- two orders, the same letters -/
theorem evO_same {fs : List FE} {ds : List yL} {vv : Nat → FA → LE → Int64} (hv : vOk fs ds vv) (hds : ds.length = fs.length) (hnd : (fs.map (fun t => t.1)).Nodup) (hos2 : ∀ t ∈ fs, ∀ u ∈ t.2.2, yOs u) {rk rk' : Nat → Nat} {R R' : Nat} (h : rkOk fs rk R) (h' : rkOk fs rk' R') (F : FA) (y : Nat) : evO (ltr fs) (fun k K => vv k F K) (orL rk fs.length R) (fun _ => 0) y = evO (ltr fs) (fun k K => vv k F K) (orL rk' fs.length R') (fun _ => 0) y := by
  have he : ∀ k, k < fs.length → ∀ K K' : LE, (∀ y, (65, y) ∈ stF fs k → K y = K' y) → vv k F K = vv k F K' := fun k hk K K' hK => by
    have hu : fs[k]? = some fs[k] := List.getElem?_eq_getElem hk
    have hc : ds[k]? = some (ds[k]'(by omega)) := List.getElem?_eq_getElem (by omega)
    exact vOk_d hv hu hc (hos2 _ (List.getElem_mem hk)) (fun _ _ => rfl) (fun y hy => hK y (by rw [stF_e hu]; exact hy))
  have fx : ∀ (rk : Nat → Nat) (R : Nat), rkOk fs rk R → ∀ k, k < fs.length → evO (ltr fs) (fun k K => vv k F K) (orL rk fs.length R) (fun _ => 0) (ltr fs k) = vv k F (evO (ltr fs) (fun k K => vv k F K) (orL rk fs.length R) (fun _ => 0)) := fun rk R h k hk =>
    evO_f (nd := fun k y => (65, y) ∈ stF fs k) (rk := rk) (m := fs.length) (fun i j hi hj e => ltr_inj hnd hi hj e) he (fun k q hk hq hin => h.1 k q hk hq hin) _ _ (fun k hk => ((orL_m R).mp hk).1) (orL_nd R) (orL_pw R) k ((orL_m R).mpr ⟨hk, h.2 k hk⟩)
  have ns : ∀ (rk : Nat → Nat) (R : Nat) y, (∀ k, k < fs.length → ltr fs k ≠ y) → evO (ltr fs) (fun k K => vv k F K) (orL rk fs.length R) (fun _ => 0) y = 0 := fun rk R y hy => evO_n _ _ y (fun k hk => hy k ((orL_m R).mp hk).1)
  exact fix_u (x := ltr fs) (e := fun k K => vv k F K) (nd := fun k y => (65, y) ∈ stF fs k) (rk := rk) (m := fs.length) he (fun k q hk hq hin => h.1 k q hk hq hin) (fx rk R h) (fx rk' R' h') (fun y hy => by rw [ns rk R y hy, ns rk' R' y hy]) y
theorem list_p (htp : I_tp M) (hu : I_us M) (hp : PR M V B) (x : Int32) : Pr M (qfr_list x) (qmd_list x) (fun M2 => (∃ V', PR M2 V' B) ∧ I_tp M2 ∧ I_us M2 ∧ Ou sLi M M2) := by
  obtain ⟨⟨u1, u2, u3⟩, u4⟩ := id hu
  obtain ⟨⟨t1, t2, t3⟩, t4⟩ := id htp
  generalize hLs : lsM M = L at u1 u2 u3 u4
  have no : qfr_list x M = some (-1, M) → qmd_list x M = some (-1, M) → Pr M (qfr_list x) (qmd_list x) (fun M2 => (∃ V', PR M2 V' B) ∧ I_tp M2 ∧ I_us M2 ∧ Ou sLi M M2) := fun e1 e2 => Pr.mk e1 e2 ⟨⟨V, hp⟩, htp, hu, Ou.rf _ _⟩
  by_cases hL10 : L = 10
  · subst hL10
    refine no ?_ ?_
    · unfold qfr_list qpr_nextList
      rw [u1, if_neg (by decide), if_neg (by decide), ob_s, om_n]
    · rcases rg x 1 200 1 200 rfl rfl with ⟨n, hn1, hn2, rfl, g1, g2⟩ | hb
      · unfold qmd_list
        rw [md_in_t g1 g2, ob_s, if_neg (by decide), u3]
        split
        · rfl
        · rfl
      · unfold qmd_list
        rw [md_in_f hb, ob_s, if_pos rfl]
  have hL : L < 10 := by omega
  have hnext : qpr_nextList M = some (some (15 + 16 * L), M) := by
    unfold qpr_nextList
    rw [u1, if_neg (nI_lt0 (by omega)), if_pos (nl_10 hL), ck_ib (by omega) (by omega), ck_t, nI_cl (by omega)]
  rcases rg x 1 200 1 200 rfl rfl with ⟨n, hn1, hn2, rfl, g1, g2⟩ | hb
  rotate_left
  · refine no ?_ ?_
    · unfold qfr_list
      rw [hnext, ob_s, om_s, within_f hb, ob_s, if_pos rfl]
    · unfold qmd_list
      rw [md_in_f hb, ob_s, if_pos rfl]
  by_cases hnT : n ≤ taM M
  rotate_left
  · refine no ?_ ?_
    · unfold qfr_list
      rw [hnext, ob_s, om_s, within_t g1 g2, ob_s, if_neg (by decide), t1, if_pos ((nI_ltI (by omega) (by omega)).mpr (by omega))]
    · unfold qmd_list
      rw [md_in_t g1 g2, ob_s, if_neg (by decide), t3, if_pos ((nI_ltI (by omega) (by omega)).mpr (by omega))]
  have hK := shK_l L hL
  have hE := sgF_E M n
  have h2 := sgF_2 M n
  obtain ⟨r, M1, x1, x2, x3⟩ := readList_g hK t1 t2 hnT
  -- the class' run
  have runC : ∀ Mc : SM, (r = 0 → Mc = wI (wI M1 1 1 0) 12 2 (nI (L + 1))) → (¬ r = 0 → Mc = wI M1 1 1 0) → qfr_list (nI n) M = some (if r = 0 then nI L else r, Mc) := fun Mc h1 h2 => by
    unfold qfr_list
    rw [hnext, ob_s, om_s, within_t g1 g2, ob_s, if_neg (by decide), t1, if_neg (nI_nlt hnT (by omega)), x1, ob_s, wipe_g, ob_s]
    by_cases q : r = 0
    · rw [if_pos q, if_pos q, h1 q]
      unfold qpr_keepList
      have e : (wI M1 1 1 0).1 12 2 = nI L := by rw [wI_1, if_neg (by omega), x2.1 12 2 (by unfold s3s; omega)]; exact u1
      rw [e, ob_s, nI_1, nI_m1 (by omega), Nat.add_sub_cancel]
    · rw [if_neg q, if_neg q, h2 q]
  obtain ⟨Mc, c1, c2⟩ : ∃ Mc : SM, (r = 0 → Mc = wI (wI M1 1 1 0) 12 2 (nI (L + 1))) ∧ (¬ r = 0 → Mc = wI M1 1 1 0) := by
    by_cases q : r = 0
    · exact ⟨_, fun _ => rfl, fun z => absurd q z⟩
    · exact ⟨_, fun z => absurd z q, fun _ => rfl⟩
  have hrun := runC Mc c1 c2
  have oc : Ou (fun c i => s3s (15 + 16 * L) c i ∨ (c = 1 ∧ i = 1) ∨ (c = 12 ∧ i = 2)) M Mc := by
    have b : Ou (fun c i => s3s (15 + 16 * L) c i ∨ (c = 1 ∧ i = 1) ∨ (c = 12 ∧ i = 2)) M (wI M1 1 1 0) := (x2.mono (fun c i z => Or.inl z)).wI (Or.inr (Or.inl ⟨rfl, rfl⟩))
    by_cases q : r = 0
    · rw [c1 q]; exact b.wI (Or.inr (Or.inr ⟨rfl, rfl⟩))
    · rw [c2 q]; exact b
  have ht : tR Mc (sgF M n) n := ⟨by omega, fun p hp => by rw [oc.1 289 p (by unfold s3s; omega), t4 p (by omega)]; exact sgF_v M hp⟩
  obtain ⟨r2, M2, y1, y2, y3, y4⟩ := mlist_g hE h2 (M := Mc) (T := taM M) (L := L) (by rw [oc.1 280 13 (by unfold s3s; omega)]; exact t3) t2 hn1 hnT (by rw [oc.1 280 27 (by unfold s3s; omega)]; exact u3) hL ht
  have oF : Ou (sL1 L) M M2 := (oc.mono (fun c i z => by unfold sL1; rcases z with z | z | z; exact Or.inl z; exact Or.inr (Or.inr (Or.inl z)); exact Or.inr (Or.inr (Or.inr z)))).tr (y2.mono (fun c i z => Or.inr (Or.inl z)))
  have oFi : Ou sLi M M2 := oF.mono (fun c i z => sL1_i hL z)
  have yc : ∀ c i, ¬ sLr L c i → M2.1 c i = Mc.1 c i := y2.1
  have e11 : M2.1 1 1 = 0 := by
    rw [yc 1 1 (by unfold sLr rlR rpR s3r; omega)]
    by_cases q : r = 0
    · rw [c1 q, wI_1, if_neg (by omega), wI_1, if_pos ⟨rfl, rfl⟩]
    · rw [c2 q, wI_1, if_pos ⟨rfl, rfl⟩]
  have itp : I_tp M2 := htp.w e11 y3 (fun i => oF.1 2 i (by unfold sL1 s3s sLr rlR rpR s3r; omega)) (fun i => oF.1 289 i (by unfold sL1 s3s sLr rlR rpR s3r; omega))
  obtain ⟨p1, p2, p3⟩ := hp.ls (by omega) hL oF
  have us : ∀ N, M2.1 12 2 = nI N → N ≤ 10 → M2.1 280 27 = nI N → L ≤ N → I_us M2 := fun N n1 n2 n3 n4 => by
    have e0 : lsM M2 = N := by unfold lsM; rw [n1, nI_cl (by omega)]
    unfold I_us
    rw [e0]
    refine ⟨⟨n1, n2, n3⟩, fun m hm w hw => ?_⟩
    rw [oF.1 287 _ (by unfold sL1 s3s sLr rlR rpR s3r; omega), oF.1 (204 + m) w (by unfold sL1 s3s sLr rlR rpR s3r; omega)]
    obtain ⟨v1, v2⟩ := u4 m hm w hw
    refine ⟨v1, ?_⟩
    rcases v2 with v2 | ⟨l, hl, v2⟩
    · exact Or.inl v2
    · exact Or.inr ⟨l, by omega, v2⟩
  have bad : ∀ R : Int32, r = R → ¬ r = 0 → r2 = R → M2.1 280 27 = nI L → Pr M (qfr_list (nI n)) (qmd_list (nI n)) (fun M2 => (∃ V', PR M2 V' B) ∧ I_tp M2 ∧ I_us M2 ∧ Ou sLi M M2) := fun R h1 h2 h3 h4 => by
    rw [if_neg h2] at hrun
    have e12 : M2.1 12 2 = nI L := by rw [yc 12 2 (by unfold sLr rlR rpR s3r; omega), c2 h2, wI_1, if_neg (by omega), x2.1 12 2 (by unfold s3s; omega)]; exact u1
    have e0 : lsM M2 = L := by unfold lsM; rw [e12, nI_cl (by omega)]
    refine Pr.mk hrun (by rw [y1, h3, h1]) ⟨⟨V, ?_⟩, itp, us L e12 (by omega) h4 (Nat.le_refl _), oFi⟩ (Sc.ou oc fun c i z => by unfold s3s at z; omega)
    unfold PR
    rw [e0, p1.2.2.2]
    exact ⟨⟨p1.1, p1.2.1, p1.2.2.1⟩, fun l hl => p2 l (by omega) (by omega), p3⟩
  cases hy : yLs (sgF M n) n (n + 1) [] 0 with
  | inl gg =>
    rw [hy] at x3 y4
    exact bad _ x3.1 x3.2 y4.1 y4.2
  | inr fs =>
    rw [hy] at x3 y4
    dsimp only at x3 y4
    cases hr : rgO fs with
    | some i =>
      rw [hr] at x3 y4
      exact bad _ x3.1 x3.2 y4.1 y4.2
    | none =>
      rw [hr] at x3 y4
      obtain ⟨z1, rk, z2, z3⟩ := x3
      obtain ⟨w1, w2, ds, rk', w3, w4, w5⟩ := y4
      rw [if_pos z1] at hrun
      have hf0 : fOk [] 0 := ⟨by simp, fun t ht => by simp at ht, by simp, Nat.le_refl _⟩
      obtain ⟨hfO, hall⟩ := yLs_t hE (n + 1) [] 0 fs (by omega) (by omega) hf0 (fun t ht => by simp at ht) hy
      have hos2 : ∀ t ∈ fs, ∀ u ∈ t.2.2, yOs u := fun t ht => (hall t ht).2
      have hos : ∀ u ∈ fsS fs, yOs u := fun u hu => by
        obtain ⟨t, ht, hut⟩ := fsS_m hu
        exact hos2 t ht u hut
      obtain ⟨vv, hv⟩ := vOk_ex fs ds (fun k t c h1 h2 => gOk_c w3 h1 h2)
      have e12 : M2.1 12 2 = nI (L + 1) := by rw [yc 12 2 (by unfold sLr rlR rpR s3r; omega), c1 z1, wI_1, if_pos ⟨rfl, rfl⟩]
      have e0 : lsM M2 = L + 1 := by unfold lsM; rw [e12, nI_cl (by omega)]
      have same1 : ∀ c i, 15 + 16 * L ≤ c → c < 15 + 16 * L + 8 → M2.1 c i = M1.1 c i := fun c i a1 a2 => by
        rw [yc c i (by unfold sLr rlR rpR s3r; omega), c1 z1, wI_1, if_neg (by omega), wI_1, if_neg (by omega)]
      have cl := (CLs_new hK hv w3.1 hfO.1 hfO.2.1 (by have := hfO.2.2.2; omega) hos hos2 (orL_27 z2) (fun k hk => ((orL_m _).mp hk).1) z3).fr same1
      have ml := MLs_new hv w3.1 hfO.1 hfO.2.1 hos2 (bd := 1000) (by omega) (gOk_o w3 (by omega)) (by have := w3.2.1; omega) hL (orL_27 w4) (fun k hk => ((orL_m _).mp hk).1) w5
      have ml' : MLs M2 L (fun F => evO (ltr fs) (fun k K => vv k F K) (orL rk fs.length 27) (fun _ => 0)) := fun M' hM' => by
        obtain ⟨M'', k1, k2, k3, k4⟩ := ml M' hM'
        exact ⟨M'', k1, fun x hx => by rw [k2 x hx]; exact evO_same hv w3.1 hfO.2.2.1 hos2 w4 z2 _ x, k3, k4⟩
      refine Pr.mk hrun (by rw [y1, w1]) ⟨⟨fun l => if l = L then (fun F => evO (ltr fs) (fun k K => vv k F K) (orL rk fs.length 27) (fun _ => 0)) else V l, ?_⟩, itp, us (L + 1) e12 (by omega) w2 (by omega), oFi⟩ (Sc.ou oc fun c i z => by unfold s3s at z; omega)
      unfold PR
      rw [e0, p1.2.2.2]
      refine ⟨⟨p1.1, p1.2.1, p1.2.2.1⟩, fun l hl => ?_, p3⟩
      by_cases ql : l = L
      · subst ql
        dsimp only
        rw [if_pos rfl]
        refine ⟨cl, ml', fun F G hFG y => ?_, ?_⟩
        · show evO _ _ _ _ y = evO _ _ _ _ y
          rw [evO_x (e := fun k K => vv k F K) (e' := fun k K => vv k G K) _ _ (fun k hk Q => ?_)]
          have hk' := ((orL_m _).mp hk).1
          have hu' : fs[k]? = some fs[k] := List.getElem?_eq_getElem hk'
          have hc' : ds[k]? = some (ds[k]'(by have := w3.1; omega)) := List.getElem?_eq_getElem (by have := w3.1; omega)
          exact vOk_d hv hu' hc' (hos2 _ (List.getElem_mem hk')) hFG (fun _ _ => rfl)
        · rw [w5.1, same1 _ _ (by omega) (by omega)]; exact z3.2.1.symm
      · dsimp only
        rw [if_neg ql]
        exact p2 l (by omega) ql
end
