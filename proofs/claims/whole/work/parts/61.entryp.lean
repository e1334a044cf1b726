/-! an entry is made, looked at, and its yarn weighed -/
section
variable {M : SM}
/-- what stands in the rows of the new one -/
def enV (a b c d e f g t : Int32) (k : Nat) : Int32 := if k = 0 then a else if k = 1 then b else if k = 2 then c else if k = 3 then d else if k = 4 then e else if k = 5 then f else if k = 6 then g else t
theorem open_g (h : I_en M) {f w : Nat} (hf : f < 16) (hw : w < 520) (t : Int32) (h6 : enM M < 300) : ∃ M1 : SM, qen_open (nI f) (nI w) t M = some (nI (enM M), M1) ∧ M1.2 = M.2 ∧ ∀ c j, M1.1 c j = if c = 222 + f ∧ j = w then nI (enM M) else if c = 220 ∧ j = enM M then M.1 (222 + f) w else if c = 219 ∧ j = enM M then t else if c = 213 ∧ j = enM M then nI w else if c = 212 ∧ j = enM M then nI f else if c = 210 ∧ j = 0 then nI (enM M + 1) else M.1 c j := by
  have a := h.1
  obtain ⟨k1, k2⟩ := kz_la f hf
  have s0 : (wI M 210 0 (nI (enM M + 1))).1 210 0 = nI (enM M + 1) := by rw [wI_1, if_pos ⟨rfl, rfl⟩]
  have p0 : qen_put (nI (enM M)) (0 : Int32) (nI f) (wI M 210 0 (nI (enM M + 1))) = some ((), (wI (wI M 210 0 (nI (enM M + 1))) (212 + 0) (enM M) (nI f))) := en_put_g (e := enM M) (k := 0) s0 (by omega) (by omega) (by omega) (nI f)
  have s1 : (wI (wI M 210 0 (nI (enM M + 1))) (212 + 0) (enM M) (nI f)).1 210 0 = nI (enM M + 1) := by rw [wI_1, if_neg (by omega)]; exact s0
  have p1 : qen_put (nI (enM M)) (1 : Int32) (nI w) (wI (wI M 210 0 (nI (enM M + 1))) (212 + 0) (enM M) (nI f)) = some ((), (wI (wI (wI M 210 0 (nI (enM M + 1))) (212 + 0) (enM M) (nI f)) (212 + 1) (enM M) (nI w))) := en_put_g (e := enM M) (k := 1) s1 (by omega) (by omega) (by omega) (nI w)
  have s2 : (wI (wI (wI M 210 0 (nI (enM M + 1))) (212 + 0) (enM M) (nI f)) (212 + 1) (enM M) (nI w)).1 210 0 = nI (enM M + 1) := by rw [wI_1, if_neg (by omega)]; exact s1
  have p2 : qen_put (nI (enM M)) (7 : Int32) t (wI (wI (wI M 210 0 (nI (enM M + 1))) (212 + 0) (enM M) (nI f)) (212 + 1) (enM M) (nI w)) = some ((), (wI (wI (wI (wI M 210 0 (nI (enM M + 1))) (212 + 0) (enM M) (nI f)) (212 + 1) (enM M) (nI w)) (212 + 7) (enM M) t)) := en_put_g (e := enM M) (k := 7) s2 (by omega) (by omega) (by omega) t
  refine ⟨wI (wI (wI (wI (wI (wI M 210 0 (nI (enM M + 1))) (212 + 0) (enM M) (nI f)) (212 + 1) (enM M) (nI w)) (212 + 7) (enM M) t) 220 (enM M) (M.1 (222 + f) w)) (222 + f) w (nI (enM M)), ?_, rfl, fun c j => ?_⟩
  · unfold qen_open
    rw [a.1, if_neg (nI_lt0 (by omega)), if_pos (nl_300 (by omega)), isFramesWeek_g hf hw, ob_s, if_neg (by decide), a.1, nI_1]
    rw [p0, ob_s, p1, ob_s, p2, ob_s, nI_cl (by omega), ck_ib (by omega) (by omega), ck_av k1 (by omega) (by omega) (by omega), ck_ib (by omega) (by omega), ck_ib (by omega) (by omega), ck_av k1 (by omega) (by omega) (by omega), ck_t, nI_cl (by omega), nI_cl (by omega)]
    have : (wI (wI (wI (wI M 210 0 (nI (enM M + 1))) (212 + 0) (enM M) (nI f)) (212 + 1) (enM M) (nI w)) (212 + 7) (enM M) t).1 (222 + f) w = M.1 (222 + f) w := by
      rw [wI_1, if_neg (by omega), wI_1, if_neg (by omega), wI_1, if_neg (by omega), wI_1, if_neg (by omega)]
    rw [this]
  · simp only [wI_1]
theorem entry_p (ht : I_tn M) (h : I_en M) (x1 x2 x3 x4 x5 x6 x7 : Int32) : Pr M (qfr_entry x1 x2 x3 x4 x5 x6 x7) (qmd_entry x1 x2 x3 x4 x5 x6 x7) (fun M2 => I_en M2 ∧ Ou sEn M M2) := by
  have fs := ht.fs
  have an := ht.nw
  have a := h.1
  have no : qfr_entry x1 x2 x3 x4 x5 x6 x7 M = some (-1, M) → qmd_entry x1 x2 x3 x4 x5 x6 x7 M = some (-1, M) → Pr M (qfr_entry x1 x2 x3 x4 x5 x6 x7) (qmd_entry x1 x2 x3 x4 x5 x6 x7) (fun M2 => I_en M2 ∧ Ou sEn M M2) := fun e1 e2 => Pr.mk e1 e2 ⟨h, Ou.rf _ _⟩
  rcases ix x1 (frM M) (by omega) with ⟨f, hf, rfl⟩ | hb
  rotate_left
  · exact no (by unfold qfr_entry; rw [hasFrame_b ht hb, ob_s, if_pos rfl]) (by unfold qmd_entry; rw [md_isFrame_b ht hb, ob_s, if_pos rfl])
  rcases rg x2 0 (nI (nwM M)) 0 (nwM M) rfl rfl (by decide) (by omega) with ⟨w, hw1, hw2, rfl, a1, a2⟩ | hb
  rotate_left
  · exact no (by unfold qfr_entry; rw [hasFrame_g ht hf, ob_s, if_neg (by decide), an.1, within_f hb, ob_s, if_pos rfl]) (by unfold qmd_entry; rw [md_isFrame_g ht hf, ob_s, if_neg (by decide), an.2.2, md_in_f hb, ob_s, if_pos rfl])
  rcases rg x3 0 9 0 9 rfl rfl with ⟨s, hs1, hs2, rfl, b1, b2⟩ | hb
  rotate_left
  · exact no (by unfold qfr_entry; rw [hasFrame_g ht hf, ob_s, if_neg (by decide), an.1, within_t a1 a2, ob_s, if_neg (by decide), within_f hb, ob_s, if_pos rfl]) (by unfold qmd_entry; rw [md_isFrame_g ht hf, ob_s, if_neg (by decide), an.2.2, md_in_t a1 a2, ob_s, if_neg (by decide), md_in_f hb, ob_s, if_pos rfl])
  rcases rg x4 0 99 0 99 rfl rfl with ⟨d, hd1, hd2, rfl, c1, c2⟩ | hb
  rotate_left
  · exact no (by unfold qfr_entry; rw [hasFrame_g ht hf, ob_s, if_neg (by decide), an.1, within_t a1 a2, ob_s, if_neg (by decide), within_t b1 b2, ob_s, if_neg (by decide), within_f hb, ob_s, if_pos rfl]) (by unfold qmd_entry; rw [md_isFrame_g ht hf, ob_s, if_neg (by decide), an.2.2, md_in_t a1 a2, ob_s, if_neg (by decide), md_in_t b1 b2, ob_s, if_neg (by decide), md_in_f hb, ob_s, if_pos rfl])
  rcases rg x5 0 999 0 999 rfl rfl with ⟨n, hn1, hn2, rfl, d1, d2⟩ | hb
  rotate_left
  · exact no (by unfold qfr_entry; rw [hasFrame_g ht hf, ob_s, if_neg (by decide), an.1, within_t a1 a2, ob_s, if_neg (by decide), within_t b1 b2, ob_s, if_neg (by decide), within_t c1 c2, ob_s, if_neg (by decide), within_f hb, ob_s, if_pos rfl]) (by unfold qmd_entry; rw [md_isFrame_g ht hf, ob_s, if_neg (by decide), an.2.2, md_in_t a1 a2, ob_s, if_neg (by decide), md_in_t b1 b2, ob_s, if_neg (by decide), md_in_t c1 c2, ob_s, if_neg (by decide), md_in_f hb, ob_s, if_pos rfl])
  rcases rg x6 0 9999 0 9999 rfl rfl with ⟨y, hy1, hy2, rfl, e1, e2⟩ | hb
  rotate_left
  · exact no (by unfold qfr_entry; rw [hasFrame_g ht hf, ob_s, if_neg (by decide), an.1, within_t a1 a2, ob_s, if_neg (by decide), within_t b1 b2, ob_s, if_neg (by decide), within_t c1 c2, ob_s, if_neg (by decide), within_t d1 d2, ob_s, if_neg (by decide), within_f hb, ob_s, if_pos rfl]) (by unfold qmd_entry; rw [md_isFrame_g ht hf, ob_s, if_neg (by decide), an.2.2, md_in_t a1 a2, ob_s, if_neg (by decide), md_in_t b1 b2, ob_s, if_neg (by decide), md_in_t c1 c2, ob_s, if_neg (by decide), md_in_t d1 d2, ob_s, if_neg (by decide), md_in_f hb, ob_s, if_pos rfl])
  rcases rg x7 0 9999 0 9999 rfl rfl with ⟨z, hz1, hz2, rfl, f1, f2⟩ | hb
  rotate_left
  · exact no (by unfold qfr_entry; rw [hasFrame_g ht hf, ob_s, if_neg (by decide), an.1, within_t a1 a2, ob_s, if_neg (by decide), within_t b1 b2, ob_s, if_neg (by decide), within_t c1 c2, ob_s, if_neg (by decide), within_t d1 d2, ob_s, if_neg (by decide), within_t e1 e2, ob_s, if_neg (by decide), within_f hb, ob_s, if_pos rfl]) (by unfold qmd_entry; rw [md_isFrame_g ht hf, ob_s, if_neg (by decide), an.2.2, md_in_t a1 a2, ob_s, if_neg (by decide), md_in_t b1 b2, ob_s, if_neg (by decide), md_in_t c1 c2, ob_s, if_neg (by decide), md_in_t d1 d2, ob_s, if_neg (by decide), md_in_t e1 e2, ob_s, if_neg (by decide), md_in_f hb, ob_s, if_pos rfl])
  have cf : qfr_entry (nI f) (nI w) (nI s) (nI d) (nI n) (nI y) (nI z) M = (ob (qen_open (nI f) (nI w) (nI (nwM M)) M) (fun r22 M23 =>
                if r22 = (-1 : Int32) then
                (some ((-1 : Int32), M23)) else
                (ob (qen_put r22 (2 : Int32) (nI s) M23) (fun _ M25 =>
                  ob (qen_put r22 (3 : Int32) (nI d) M25) (fun _ M28 =>
                  ob (qen_put r22 (4 : Int32) (nI n) M28) (fun _ M31 =>
                  ob (qen_put r22 (5 : Int32) (nI y) M31) (fun _ M34 =>
                  ob (qen_put r22 (6 : Int32) (nI z) M34) (fun _ M37 =>
                  some (r22, M37))))))))) := by
    unfold qfr_entry
    rw [hasFrame_g ht hf, ob_s, if_neg (by decide), an.1, within_t a1 a2, ob_s, if_neg (by decide), within_t b1 b2, ob_s, if_neg (by decide), within_t c1 c2, ob_s, if_neg (by decide), within_t d1 d2, ob_s, if_neg (by decide), within_t e1 e2, ob_s, if_neg (by decide), within_t f1 f2, ob_s, if_neg (by decide), an.1]
  have cm : ∀ M1 : SM, M1.1 280 0 = nI (nwM M) → M1.1 280 3 = nI (frM M) → M1.1 280 43 = nI (enM M) → qmd_entry (nI f) (nI w) (nI s) (nI d) (nI n) (nI y) (nI z) M1 = (if nI (enM M) = (300 : Int32) then some (-1, M1) else some (nI (enM M), (wI (wI (wI (wI (wI (wI (wI (wI (wI M1 310 (enM M) (nI f)) 311 (enM M) (nI w)) 312 (enM M) (nI s)) 313 (enM M) (nI d)) 314 (enM M) (nI n)) 315 (enM M) (nI y)) 316 (enM M) (nI z)) 317 (enM M) (nI (nwM M))) 280 43 (nI (enM M + 1))))) := by
    intro M1 q1 q2 q3
    unfold qmd_entry
    rw [md_isFrame_rg q2 (by omega) hf, ob_s, if_neg (by decide), q1, md_in_t a1 a2, ob_s, if_neg (by decide), md_in_t b1 b2, ob_s, if_neg (by decide), md_in_t c1 c2, ob_s, if_neg (by decide), md_in_t d1 d2, ob_s, if_neg (by decide), md_in_t e1 e2, ob_s, if_neg (by decide), md_in_t f1 f2, ob_s, if_neg (by decide), q3, q1]
    by_cases hq : nI (enM M) = (300 : Int32)
    · rw [if_pos hq, if_pos hq]
    · have hlt : enM M < 300 := by
        rcases Nat.lt_or_ge (enM M) 300 with v | v
        · exact v
        · exact absurd (show nI (enM M) = nI 300 by congr 1; omega) hq
      rw [if_neg hq, if_neg hq, ck_ib (by omega) (by omega), ck_ib (by omega) (by omega), ck_ib (by omega) (by omega), ck_ib (by omega) (by omega), ck_ib (by omega) (by omega), ck_ib (by omega) (by omega), ck_ib (by omega) (by omega), ck_ib (by omega) (by omega), ck_t, nI_cl (by omega), nI_1, nI_m1 (by omega)]
      rfl
  by_cases h6 : enM M < 300
  · obtain ⟨M1, g1, g2, g3⟩ := open_g h (f := f) (w := w) (by omega) (by omega) (nI (nwM M)) h6
    have s0 : M1.1 210 0 = nI (enM M + 1) := by rw [g3, if_neg (by omega), if_neg (by omega), if_neg (by omega), if_neg (by omega), if_neg (by omega), if_pos ⟨rfl, rfl⟩]
    have p2 : qen_put (nI (enM M)) (2 : Int32) (nI s) M1 = some ((), (wI M1 (212 + 2) (enM M) (nI s))) := en_put_g (e := enM M) (k := 2) s0 (by omega) (by omega) (by omega) (nI s)
    have s2 : (wI M1 (212 + 2) (enM M) (nI s)).1 210 0 = nI (enM M + 1) := by rw [wI_1, if_neg (by omega)]; exact s0
    have p3 : qen_put (nI (enM M)) (3 : Int32) (nI d) (wI M1 (212 + 2) (enM M) (nI s)) = some ((), (wI (wI M1 (212 + 2) (enM M) (nI s)) (212 + 3) (enM M) (nI d))) := en_put_g (e := enM M) (k := 3) s2 (by omega) (by omega) (by omega) (nI d)
    have s3 : (wI (wI M1 (212 + 2) (enM M) (nI s)) (212 + 3) (enM M) (nI d)).1 210 0 = nI (enM M + 1) := by rw [wI_1, if_neg (by omega)]; exact s2
    have p4 : qen_put (nI (enM M)) (4 : Int32) (nI n) (wI (wI M1 (212 + 2) (enM M) (nI s)) (212 + 3) (enM M) (nI d)) = some ((), (wI (wI (wI M1 (212 + 2) (enM M) (nI s)) (212 + 3) (enM M) (nI d)) (212 + 4) (enM M) (nI n))) := en_put_g (e := enM M) (k := 4) s3 (by omega) (by omega) (by omega) (nI n)
    have s4 : (wI (wI (wI M1 (212 + 2) (enM M) (nI s)) (212 + 3) (enM M) (nI d)) (212 + 4) (enM M) (nI n)).1 210 0 = nI (enM M + 1) := by rw [wI_1, if_neg (by omega)]; exact s3
    have p5 : qen_put (nI (enM M)) (5 : Int32) (nI y) (wI (wI (wI M1 (212 + 2) (enM M) (nI s)) (212 + 3) (enM M) (nI d)) (212 + 4) (enM M) (nI n)) = some ((), (wI (wI (wI (wI M1 (212 + 2) (enM M) (nI s)) (212 + 3) (enM M) (nI d)) (212 + 4) (enM M) (nI n)) (212 + 5) (enM M) (nI y))) := en_put_g (e := enM M) (k := 5) s4 (by omega) (by omega) (by omega) (nI y)
    have s5 : (wI (wI (wI (wI M1 (212 + 2) (enM M) (nI s)) (212 + 3) (enM M) (nI d)) (212 + 4) (enM M) (nI n)) (212 + 5) (enM M) (nI y)).1 210 0 = nI (enM M + 1) := by rw [wI_1, if_neg (by omega)]; exact s4
    have p6 : qen_put (nI (enM M)) (6 : Int32) (nI z) (wI (wI (wI (wI M1 (212 + 2) (enM M) (nI s)) (212 + 3) (enM M) (nI d)) (212 + 4) (enM M) (nI n)) (212 + 5) (enM M) (nI y)) = some ((), (wI (wI (wI (wI (wI M1 (212 + 2) (enM M) (nI s)) (212 + 3) (enM M) (nI d)) (212 + 4) (enM M) (nI n)) (212 + 5) (enM M) (nI y)) (212 + 6) (enM M) (nI z))) := en_put_g (e := enM M) (k := 6) s5 (by omega) (by omega) (by omega) (nI z)
    generalize hM3 : wI (wI (wI (wI (wI M1 (212 + 2) (enM M) (nI s)) (212 + 3) (enM M) (nI d)) (212 + 4) (enM M) (nI n)) (212 + 5) (enM M) (nI y)) (212 + 6) (enM M) (nI z) = M3 at p6
    have g4 : ∀ c j, M3.1 c j = if c = 218 ∧ j = enM M then nI z else if c = 217 ∧ j = enM M then nI y else if c = 216 ∧ j = enM M then nI n else if c = 215 ∧ j = enM M then nI d else if c = 214 ∧ j = enM M then nI s else M1.1 c j := by
      intro c j; rw [← hM3]; simp only [wI_1]
    have g5 : M3.2 = M.2 := by rw [← hM3]; exact g2
    have hi : ∀ c j, 280 ≤ c → M3.1 c j = M.1 c j := fun c j hc => by
      rw [g4, if_neg (by omega), if_neg (by omega), if_neg (by omega), if_neg (by omega), if_neg (by omega), g3, if_neg (by omega), if_neg (by omega), if_neg (by omega), if_neg (by omega), if_neg (by omega), if_neg (by omega)]
    have c1' : qfr_entry (nI f) (nI w) (nI s) (nI d) (nI n) (nI y) (nI z) M = some (nI (enM M), M3) := by
      rw [cf, g1, ob_s, if_neg (nI_ne_m1 (by omega))]
      rw [p2, ob_s, p3, ob_s, p4, ob_s, p5, ob_s, p6, ob_s]
    have c2' := cm M3 ((hi _ _ (by omega)).trans an.2.2) ((hi _ _ (by omega)).trans fs.2.2) ((hi _ _ (by omega)).trans a.2.2)
    rw [if_neg (by show ¬ nI (enM M) = nI 300; rw [nI_eqN (by omega) (by omega)]; omega)] at c2'
    generalize hM4 : (wI (wI (wI (wI (wI (wI (wI (wI (wI M3 310 (enM M) (nI f)) 311 (enM M) (nI w)) 312 (enM M) (nI s)) 313 (enM M) (nI d)) 314 (enM M) (nI n)) 315 (enM M) (nI y)) 316 (enM M) (nI z)) 317 (enM M) (nI (nwM M))) 280 43 (nI (enM M + 1))) = M4 at c2'
    have g6 : ∀ c j, M4.1 c j = if c = 280 ∧ j = 43 then nI (enM M + 1) else if c = 317 ∧ j = enM M then nI (nwM M) else if c = 316 ∧ j = enM M then nI z else if c = 315 ∧ j = enM M then nI y else if c = 314 ∧ j = enM M then nI n else if c = 313 ∧ j = enM M then nI d else if c = 312 ∧ j = enM M then nI s else if c = 311 ∧ j = enM M then nI w else if c = 310 ∧ j = enM M then nI f else M3.1 c j := by
      intro c j; rw [← hM4]; simp only [wI_1]
    have g7 : M4.2 = M.2 := by rw [← hM4]; exact g5
    -- the new one's rows, both sides
    have rN : ∀ c, c < 8 → M4.1 (212 + c) (enM M) = enV (nI f) (nI w) (nI s) (nI d) (nI n) (nI y) (nI z) (nI (nwM M)) c ∧ M4.1 (310 + c) (enM M) = enV (nI f) (nI w) (nI s) (nI d) (nI n) (nI y) (nI z) (nI (nwM M)) c := by
      intro c hc
      rcases (show c = 0 ∨ c = 1 ∨ c = 2 ∨ c = 3 ∨ c = 4 ∨ c = 5 ∨ c = 6 ∨ c = 7 by omega) with rfl | rfl | rfl | rfl | rfl | rfl | rfl | rfl <;> constructor <;> simp [g6, g4, g3, enV]
      all_goals (intros; omega)
    have rO : ∀ c j, (212 ≤ c ∧ c ≤ 220 ∨ 310 ≤ c ∧ c ≤ 317) → j ≠ enM M → M4.1 c j = M.1 c j := by
      intro c j hc hj
      rw [g6, if_neg (by omega), if_neg (by omega), if_neg (by omega), if_neg (by omega), if_neg (by omega), if_neg (by omega), if_neg (by omega), if_neg (by omega), if_neg (by omega), g4, if_neg (by omega), if_neg (by omega), if_neg (by omega), if_neg (by omega), if_neg (by omega), g3, if_neg (by omega), if_neg (by omega), if_neg (by omega), if_neg (by omega), if_neg (by omega), if_neg (by omega)]
    have e0 : enM M4 = enM M + 1 := by
      unfold enM
      rw [g6, if_neg (by omega), if_neg (by omega), if_neg (by omega), if_neg (by omega), if_neg (by omega), if_neg (by omega), if_neg (by omega), if_neg (by omega), if_neg (by omega), g4, if_neg (by omega), if_neg (by omega), if_neg (by omega), if_neg (by omega), if_neg (by omega), s0, nI_cl (by unfold enM at h6; omega)]
      rfl
    have lC : ∀ f' w' m, m ≤ enM M → lstN M4 f' w' m = lstN M f' w' m := fun f' w' m hm => lstN_cong f' w' m (fun e he => ⟨rO _ _ (by omega) (by omega), rO _ _ (by omega) (by omega)⟩)
    obtain ⟨h1, h2, h3, h4, h5⟩ := h
    refine Pr.mk c1' c2' ⟨?_, fun c j hs => ?_, g7⟩ (fun c j hc => hi c j (by omega))
    · unfold I_en
      rw [e0]
      refine ⟨⟨?_, by omega, ?_⟩, fun c hc e he => ?_, fun e he => ?_, fun f' hf' w' hw' => ?_, fun e he f' w' hf' hw' q1 q2 => ?_⟩
      · rw [g6, if_neg (by omega), if_neg (by omega), if_neg (by omega), if_neg (by omega), if_neg (by omega), if_neg (by omega), if_neg (by omega), if_neg (by omega), if_neg (by omega), g4, if_neg (by omega), if_neg (by omega), if_neg (by omega), if_neg (by omega), if_neg (by omega), s0]
      · rw [g6, if_pos ⟨rfl, rfl⟩]
      · by_cases q : e = enM M
        · subst q; rw [(rN c hc).1, (rN c hc).2]
        · rw [rO _ _ (by omega) q, rO _ _ (by omega) q]; exact h2 c hc e (by omega)
      · by_cases q : e = enM M
        · subst q
          unfold enR
          rw [show (212 : Nat) = 212 + 0 from rfl, (rN 0 (by omega)).1, show (213 : Nat) = 212 + 1 from rfl, (rN 1 (by omega)).1, show (214 : Nat) = 212 + 2 from rfl, (rN 2 (by omega)).1, show (215 : Nat) = 212 + 3 from rfl, (rN 3 (by omega)).1, show (216 : Nat) = 212 + 4 from rfl, (rN 4 (by omega)).1, show (217 : Nat) = 212 + 5 from rfl, (rN 5 (by omega)).1, show (218 : Nat) = 212 + 6 from rfl, (rN 6 (by omega)).1]
          exact ⟨⟨f, by omega, rfl⟩, ⟨w, by omega, rfl⟩, ⟨s, hs2, rfl⟩, ⟨d, hd2, rfl⟩, ⟨n, hn2, rfl⟩, ⟨y, hy2, rfl⟩, ⟨z, hz2, rfl⟩⟩
        · unfold enR
          rw [rO _ _ (by omega) q, rO _ _ (by omega) q, rO _ _ (by omega) q, rO _ _ (by omega) q, rO _ _ (by omega) q, rO _ _ (by omega) q, rO _ _ (by omega) q]
          exact h3 e (by omega)
      · have el : lstN M4 f' w' (enM M + 1) = if M4.1 212 (enM M) = nI f' ∧ M4.1 213 (enM M) = nI w' then nI (enM M) else lstN M4 f' w' (enM M) := rfl
        have r0 : M4.1 212 (enM M) = nI f := (rN 0 (by omega)).1
        have r1 : M4.1 213 (enM M) = nI w := (rN 1 (by omega)).1
        rw [el, r0, r1, lC _ _ _ (Nat.le_refl _), g6, if_neg (by omega), if_neg (by omega), if_neg (by omega), if_neg (by omega), if_neg (by omega), if_neg (by omega), if_neg (by omega), if_neg (by omega), if_neg (by omega), g4, if_neg (by omega), if_neg (by omega), if_neg (by omega), if_neg (by omega), if_neg (by omega), g3]
        by_cases q : f' = f ∧ w' = w
        · obtain ⟨rfl, rfl⟩ := q
          rw [if_pos ⟨rfl, rfl⟩, if_pos ⟨rfl, rfl⟩]
        · rw [if_neg (by omega), if_neg (by omega), if_neg (by omega), if_neg (by omega), if_neg (by omega), if_neg (by omega), if_neg (fun y => q ⟨(nI_inj (by omega) (by omega) y.1).symm, (nI_inj (by omega) (by omega) y.2).symm⟩)]
          exact h4 f' hf' w' hw'
      · by_cases q : e = enM M
        · subst q
          have r0 : M4.1 212 (enM M) = nI f := (rN 0 (by omega)).1
          have r1 : M4.1 213 (enM M) = nI w := (rN 1 (by omega)).1
          have z1 : f = f' := nI_inj (by omega) (by omega) (r0.symm.trans q1)
          have z2 : w = w' := nI_inj (by omega) (by omega) (r1.symm.trans q2)
          subst z1 z2
          rw [lC _ _ _ (Nat.le_refl _), g6, if_neg (by omega), if_neg (by omega), if_neg (by omega), if_neg (by omega), if_neg (by omega), if_neg (by omega), if_neg (by omega), if_neg (by omega), if_neg (by omega), g4, if_neg (by omega), if_neg (by omega), if_neg (by omega), if_neg (by omega), if_neg (by omega), g3, if_neg (by omega), if_pos ⟨rfl, rfl⟩]
          exact h4 f (by omega) w (by omega)
        · rw [rO _ _ (by omega) q] at q1 q2
          rw [rO _ _ (by omega) q, lC _ _ _ (by omega)]
          exact h5 e (by omega) f' w' hf' hw' q1 q2
    · unfold sEn at hs
      rw [g6, if_neg (by omega), if_neg (by omega), if_neg (by omega), if_neg (by omega), if_neg (by omega), if_neg (by omega), if_neg (by omega), if_neg (by omega), if_neg (by omega), g4, if_neg (by omega), if_neg (by omega), if_neg (by omega), if_neg (by omega), if_neg (by omega), g3, if_neg (by omega), if_neg (by omega), if_neg (by omega), if_neg (by omega), if_neg (by omega), if_neg (by omega)]
  · have e3 : enM M = 300 := by omega
    refine no ?_ ?_
    · rw [cf]
      unfold qen_open
      rw [a.1, e3, if_neg (by decide), if_neg (by decide), ob_s, if_pos rfl]
    · rw [cm M an.2.2 fs.2.2 a.2.2, e3, if_pos (by decide)]
theorem look_p (h : I_en M) (x y : Int32) : Pr M (qfr_look x y) (qmd_look x y) (fun M2 => M2 = M) := by
  have a := h.1
  rcases ix x (enM M) (by omega) with ⟨e, he, rfl⟩ | hb
  · have hm : ∀ c, c < 8 → M.1 (310 + c) e = M.1 (212 + c) e := fun c hc => h.2.1 c hc e he
    rcases ix y 8 (by omega) with ⟨k, hk, rfl⟩ | hb
    · refine Pr.mk (r := M.1 (212 + k) e) (M1 := M) (M2 := M) ?_ ?_ rfl
      · unfold qfr_look; rw [en_at_g a.1 a.2.1 he hk, ob_s]
      · unfold qmd_look
        rw [if_neg (nI_lt0 (by omega)), a.2.2, if_pos ((nI_ltI (by omega) (by omega)).mpr he)]
        simp only [ck_ib (show e < 300 by omega) (by decide), ck_t, nI_cl (show e < 2147483648 by omega)]
        rcases (show k = 0 ∨ k = 1 ∨ k = 2 ∨ k = 3 ∨ k = 4 ∨ k = 5 ∨ k = 6 ∨ k = 7 by omega) with rfl | rfl | rfl | rfl | rfl | rfl | rfl | rfl
        · rw [if_pos (by decide)]; exact congrArg (fun v => some (v, M)) (hm 0 (by omega))
        · rw [if_neg (by decide), if_pos (by decide)]; exact congrArg (fun v => some (v, M)) (hm 1 (by omega))
        · rw [if_neg (by decide), if_neg (by decide), if_pos (by decide)]; exact congrArg (fun v => some (v, M)) (hm 2 (by omega))
        · rw [if_neg (by decide), if_neg (by decide), if_neg (by decide), if_pos (by decide)]; exact congrArg (fun v => some (v, M)) (hm 3 (by omega))
        · rw [if_neg (by decide), if_neg (by decide), if_neg (by decide), if_neg (by decide), if_pos (by decide)]; exact congrArg (fun v => some (v, M)) (hm 4 (by omega))
        · rw [if_neg (by decide), if_neg (by decide), if_neg (by decide), if_neg (by decide), if_neg (by decide), if_pos (by decide)]; exact congrArg (fun v => some (v, M)) (hm 5 (by omega))
        · rw [if_neg (by decide), if_neg (by decide), if_neg (by decide), if_neg (by decide), if_neg (by decide), if_neg (by decide), if_pos (by decide)]; exact congrArg (fun v => some (v, M)) (hm 6 (by omega))
        · rw [if_neg (by decide), if_neg (by decide), if_neg (by decide), if_neg (by decide), if_neg (by decide), if_neg (by decide), if_neg (by decide), if_pos (by decide)]; exact congrArg (fun v => some (v, M)) (hm 7 (by omega))
    · refine Pr.mk (r := -1) (M1 := M) (M2 := M) ?_ ?_ rfl
      · unfold qfr_look qen_at
        rw [en_has_g a.1 a.2.1 he, ob_s, if_neg (by decide)]
        by_cases h0 : y < 0
        · rw [if_pos h0, ob_s]
        · rw [if_neg h0, if_neg (show ¬ y < (8 : Int32) from hb.resolve_left h0), ob_s]
      · have nk : ∀ k, k < 8 → ¬ y = nI k := fun k hk q => by
          subst q
          rcases hb with hb | hb
          · exact nI_lt0 (by omega) hb
          · exact hb ((nI_ltI (by omega) (by omega)).mpr hk)
        unfold qmd_look
        rw [if_neg (nI_lt0 (by omega)), a.2.2, if_pos ((nI_ltI (by omega) (by omega)).mpr he), if_neg (show ¬ y = (0 : Int32) from nk 0 (by omega)), if_neg (show ¬ y = (1 : Int32) from nk 1 (by omega)), if_neg (show ¬ y = (2 : Int32) from nk 2 (by omega)), if_neg (show ¬ y = (3 : Int32) from nk 3 (by omega)), if_neg (show ¬ y = (4 : Int32) from nk 4 (by omega)), if_neg (show ¬ y = (5 : Int32) from nk 5 (by omega)), if_neg (show ¬ y = (6 : Int32) from nk 6 (by omega)), if_neg (show ¬ y = (7 : Int32) from nk 7 (by omega))]
  · refine Pr.mk (r := -1) (M1 := M) (M2 := M) ?_ ?_ rfl
    · unfold qfr_look; rw [en_at_b a.1 hb, ob_s]
    · unfold qmd_look
      by_cases h0 : x < 0
      · rw [if_pos h0]
      · rw [if_neg h0, a.2.2, if_neg (hb.resolve_left h0)]
end
