/-! at the start -/
theorem K0_7 : ∀ c, c < 336 → c ≠ 3 → ¬ K0 c = 7 := by decide +kernel
theorem iS_0 (len : Int32) (sc : Nat → Int32) {c : Nat} (h : c < 336) (h3 : c ≠ 3) (i : Nat) : iS len sc c i = 0 := by
  unfold iS
  rw [if_neg (by omega), if_neg (by omega), if_neg (fun z => K0_7 c h h3 z.1)]
section
variable (len : Int32) (sc : Nat → Int32)
theorem mS_u (c i : Nat) : (mS len sc).1 c i = in_1200 (in_1100 (iS len sc)) c i := rfl
theorem mS_b {c : Nat} (i : Nat) (h : 336 ≤ c) : (mS len sc).1 c i = iS len sc c i := by
  rw [mS_u]
  unfold in_1200 in_1100 in_0 in_200 in_1000 in_700 in_900
  simp only [fiI_e, upI_e]
  repeat rw [if_neg (by omega)]
theorem mS_z {c : Nat} (i : Nat) (h : c < 336) (h1 : ¬ (c = 0 ∨ c = 1 ∨ c = 3 ∨ (204 ≤ c ∧ c ≤ 209) ∨ (222 ≤ c ∧ c ≤ 237) ∨ c = 243 ∨ (c = 280 ∧ i = 59) ∨ c = 287 ∨ c = 288)) : (mS len sc).1 c i = 0 := by
  rw [mS_u]
  unfold in_1200 in_1100 in_0 in_200 in_1000 in_700 in_900
  simp only [fiI_e, upI_e]
  repeat rw [if_neg (by omega)]
  exact iS_0 len sc h (by omega) i
theorem mS_li {m w : Nat} (hm : m < 6) (hw : w < 520) : (mS len sc).1 (204 + m) w = -1 := by
  rw [mS_u]
  unfold in_1200 in_1100 in_0 in_200 in_1000 in_700 in_900
  simp only [fiI_e, upI_e]
  rcases (show m = 0 ∨ m = 1 ∨ m = 2 ∨ m = 3 ∨ m = 4 ∨ m = 5 by omega) with rfl | rfl | rfl | rfl | rfl | rfl <;> simp [hw]
theorem mS_en {f w : Nat} (hf : f < 16) (hw : w < 520) : (mS len sc).1 (222 + f) w = -1 := by
  rw [mS_u]
  unfold in_1200 in_1100 in_0 in_200 in_1000 in_700 in_900
  simp only [fiI_e, upI_e]
  rcases (show f = 0 ∨ f = 1 ∨ f = 2 ∨ f = 3 ∨ f = 4 ∨ f = 5 ∨ f = 6 ∨ f = 7 ∨ f = 8 ∨ f = 9 ∨ f = 10 ∨ f = 11 ∨ f = 12 ∨ f = 13 ∨ f = 14 ∨ f = 15 by omega) with rfl | rfl | rfl | rfl | rfl | rfl | rfl | rfl | rfl | rfl | rfl | rfl | rfl | rfl | rfl | rfl <;> simp [hw]
theorem mS_243 {w : Nat} (hw : w < 520) : (mS len sc).1 243 w = -1 := by
  rw [mS_u]
  unfold in_1200 in_1100 in_0 in_200 in_1000 in_700 in_900
  simp only [fiI_e, upI_e]
  simp [hw]
theorem mS_287 {i : Nat} (hi : i < 3120) : (mS len sc).1 287 i = -1 := by
  rw [mS_u]
  unfold in_1200 in_1100 in_0 in_200 in_1000 in_700 in_900
  simp only [fiI_e, upI_e]
  simp [hi]
theorem mS_s : (mS len sc).1 0 10 = 0 ∧ (mS len sc).1 0 11 = 5 ∧ (mS len sc).1 1 1 = 0 ∧ (mS len sc).1 280 59 = 5 := by
  refine ⟨?_, ?_, ?_, ?_⟩ <;> rw [mS_u] <;> unfold in_1200 in_1100 in_0 in_200 in_1000 in_700 in_900 <;> simp only [fiI_e, upI_e] <;> simp
theorem Inv_start : Inv (mS len sc) := by
  obtain ⟨s1, s2, s3, s4⟩ := mS_s len sc
  have z : ∀ {c : Nat} (i : Nat), c < 336 → ¬ (c = 0 ∨ c = 1 ∨ c = 3 ∨ (204 ≤ c ∧ c ≤ 209) ∨ (222 ≤ c ∧ c ≤ 237) ∨ c = 243 ∨ (c = 280 ∧ i = 59) ∨ c = 287 ∨ c = 288) → (mS len sc).1 c i = 0 := fun i h1 h2 => mS_z len sc i h1 h2
  have hL : ∀ c i, (mS len sc).2 c i = 0 := fun _ _ => rfl
  have li : ∀ {m w : Nat}, m < 6 → w < 520 → (mS len sc).1 (204 + m) w = -1 := fun h1 h2 => mS_li len sc h1 h2
  have en : ∀ {m w : Nat}, m < 16 → w < 520 → (mS len sc).1 (222 + m) w = -1 := fun h1 h2 => mS_en len sc h1 h2
  have b243 : ∀ {w : Nat}, w < 520 → (mS len sc).1 243 w = -1 := fun h2 => mS_243 len sc h2
  have b287 : ∀ {w : Nat}, w < 3120 → (mS len sc).1 287 w = -1 := fun h2 => mS_287 len sc h2
  generalize mS len sc = M at *
  have e0 : nwM M = 0 := by unfold nwM; rw [z 0 (by omega) (by omega)]; rfl
  have e1 : msM M = 0 := by unfold msM; rw [z 1 (by omega) (by omega)]; rfl
  have e2 : knM M = 0 := by unfold knM; rw [z 2 (by omega) (by omega)]; rfl
  have e3 : frM M = 0 := by unfold frM; rw [z 3 (by omega) (by omega)]; rfl
  have e4 : lsM M = 0 := by unfold lsM; rw [z 2 (by omega) (by omega)]; rfl
  have e5 : acM M = 0 := by unfold acM; rw [z 3 (by omega) (by omega)]; rfl
  have e6 : enM M = 0 := by unfold enM; rw [z 0 (by omega) (by omega)]; rfl
  have e7 : bkM M = 0 := by unfold bkM; rw [z 0 (by omega) (by omega)]; rfl
  have e8 : loM M = 0 := by unfold loM; rw [z 0 (by omega) (by omega)]; rfl
  have e9 : peM M = 0 := by unfold peM; rw [z 0 (by omega) (by omega)]; rfl
  have e10 : scM M = 0 := by unfold scM; rw [z 1 (by omega) (by omega)]; rfl
  have e11 : taM M = 0 := by unfold taM; rw [s3]; rfl
  refine ⟨?_, ?_, ⟨fun _ _ _ => 0, fun _ _ _ => 0, ?_⟩, ?_, ?_, ?_, ?_, ?_, ?_, ?_, ?_, ?_⟩
  · unfold I_tn
    rw [e0, e1, e2, e3]
    refine ⟨⟨z 0 (by omega) (by omega), by omega, z 0 (by omega) (by omega)⟩, ⟨z 1 (by omega) (by omega), by omega, z 1 (by omega) (by omega)⟩, ⟨z 2 (by omega) (by omega), by omega, z 2 (by omega) (by omega)⟩, ⟨z 3 (by omega) (by omega), by omega, z 3 (by omega) (by omega)⟩, fun m hm => by omega, fun m hm => ?_, fun k hk => by omega, fun f hf => by omega, fun f hf => by omega⟩
    rw [z m (c := 286) (by omega) (by omega), z m (c := 181) (by omega) (by omega)]
    exact ⟨rfl, 0, by omega, rfl⟩
  · unfold I_us
    rw [e4]
    refine ⟨⟨z 2 (by omega) (by omega), by omega, z 27 (by omega) (by omega)⟩, fun m hm w hw => ?_⟩
    rw [li hm hw, b287 (by omega)]
    exact ⟨rfl, Or.inl rfl⟩
  · unfold PR
    rw [e4, e5]
    exact ⟨⟨z 3 (by omega) (by omega), by omega, z 28 (by omega) (by omega)⟩, fun l hl => by omega, fun a ha => by omega⟩
  · unfold I_en
    rw [e6]
    exact ⟨⟨z 0 (by omega) (by omega), by omega, z 43 (by omega) (by omega)⟩, fun c hc e he => by omega, fun e he => by omega, fun f hf w hw => en hf hw, fun e he => by omega⟩
  · unfold I_bk
    rw [e7]
    exact ⟨⟨z 0 (by omega) (by omega), by omega, z 61 (by omega) (by omega)⟩, fun i hi => by omega, fun w hw => b243 hw, fun i hi => by omega⟩
  · unfold I_lo
    rw [e8]
    refine ⟨⟨z 0 (by omega) (by omega), by omega, z 80 (by omega) (by omega)⟩, fun l hl => ?_⟩
    rw [z l (c := 330) (by omega) (by omega), z l (c := 271) (by omega) (by omega), z l (c := 331) (by omega) (by omega), z l (c := 272) (by omega) (by omega)]
    exact ⟨rfl, ⟨0, by omega, rfl⟩, rfl⟩
  · unfold I_fu
    rw [e9, e10, e2]
    refine ⟨⟨z 0 (by omega) (by omega), by omega, z 87 (by omega) (by omega)⟩, ⟨z 1 (by omega) (by omega), by omega, z 60 (by omega) (by omega)⟩, fun k hk => ?_, fun k hk _ => z k (by omega) (by omega)⟩
    rw [z k (c := 335) (by omega) (by omega), z k (c := 279) (by omega) (by omega)]
    exact ⟨rfl, Or.inl rfl⟩
  · unfold I_db
    rw [z 83 (c := 280) (by omega) (by omega), z 0 (c := 273) (by omega) (by omega)]
    exact ⟨rfl, Or.inl rfl, fun a _ => by rw [hL, hL]⟩
  · exact ⟨hL _ _, z 0 (by omega) (by omega)⟩
  · unfold I_tp
    rw [e11]
    exact ⟨⟨s3, by omega, z 13 (by omega) (by omega)⟩, fun i _ => by rw [z i (c := 289) (by omega) (by omega), z i (c := 2) (by omega) (by omega)]⟩
  · exact ⟨⟨0, by omega, s1, z 58 (by omega) (by omega)⟩, 5, by omega, s2, s4⟩
  · refine ⟨Or.inl ⟨z 0 (by omega) (by omega), z 68 (by omega) (by omega)⟩, fun i _ => by rw [z i (c := 327) (by omega) (by omega), z i (c := 269) (by omega) (by omega)], fun i _ _ => z i (by omega) (by omega)⟩
/-- the law's loop from the start, on every script -/
theorem law_all {len : Nat} (hlen : len ≤ 4096) (sc : Nat → Int32) : ∃ Mz, qlw_law_L18 FU 0 (mS (nI len) sc) = some (1, Mz) := by
  have e : (mS (nI len) sc).1 9998 0 = nI len := by
    rw [mS_b _ _ _ (by omega)]
    exact if_pos rfl
  exact law_go e hlen len FU 0 (mS (nI len) sc) (by omega) (by unfold FU; omega) (Inv_start (nI len) sc) (Sc.rf _) (by omega)
end
