/-- all of a list, piece by piece -/
theorem all_piece {α : Type} {p : α → Bool} (c : Nat) : ∀ (l : List α), (l.take c).all p = true → (l.drop c).all p = true → l.all p = true := fun l h1 h2 => by
  rw [← List.take_append_drop c l, List.all_append, h1, h2]; rfl
theorem vT_22 : (K_1400.drop 990).all (okE (cB 1400)) = true := by
  have h := vL_22
  rwa [List.take_of_length_le (by decide +kernel)] at h
theorem vT_21 : (K_1400.drop 945).all (okE (cB 1400)) = true := all_piece 45 _ vL_21 (by rw [List.drop_drop]; exact vT_22)
theorem vT_20 : (K_1400.drop 900).all (okE (cB 1400)) = true := all_piece 45 _ vL_20 (by rw [List.drop_drop]; exact vT_21)
theorem vT_19 : (K_1400.drop 855).all (okE (cB 1400)) = true := all_piece 45 _ vL_19 (by rw [List.drop_drop]; exact vT_20)
theorem vT_18 : (K_1400.drop 810).all (okE (cB 1400)) = true := all_piece 45 _ vL_18 (by rw [List.drop_drop]; exact vT_19)
theorem vT_17 : (K_1400.drop 765).all (okE (cB 1400)) = true := all_piece 45 _ vL_17 (by rw [List.drop_drop]; exact vT_18)
theorem vT_16 : (K_1400.drop 720).all (okE (cB 1400)) = true := all_piece 45 _ vL_16 (by rw [List.drop_drop]; exact vT_17)
theorem vT_15 : (K_1400.drop 675).all (okE (cB 1400)) = true := all_piece 45 _ vL_15 (by rw [List.drop_drop]; exact vT_16)
theorem vT_14 : (K_1400.drop 630).all (okE (cB 1400)) = true := all_piece 45 _ vL_14 (by rw [List.drop_drop]; exact vT_15)
theorem vT_13 : (K_1400.drop 585).all (okE (cB 1400)) = true := all_piece 45 _ vL_13 (by rw [List.drop_drop]; exact vT_14)
theorem vT_12 : (K_1400.drop 540).all (okE (cB 1400)) = true := all_piece 45 _ vL_12 (by rw [List.drop_drop]; exact vT_13)
theorem vT_11 : (K_1400.drop 495).all (okE (cB 1400)) = true := all_piece 45 _ vL_11 (by rw [List.drop_drop]; exact vT_12)
theorem vT_10 : (K_1400.drop 450).all (okE (cB 1400)) = true := all_piece 45 _ vL_10 (by rw [List.drop_drop]; exact vT_11)
theorem vT_9 : (K_1400.drop 405).all (okE (cB 1400)) = true := all_piece 45 _ vL_9 (by rw [List.drop_drop]; exact vT_10)
theorem vT_8 : (K_1400.drop 360).all (okE (cB 1400)) = true := all_piece 45 _ vL_8 (by rw [List.drop_drop]; exact vT_9)
theorem vT_7 : (K_1400.drop 315).all (okE (cB 1400)) = true := all_piece 45 _ vL_7 (by rw [List.drop_drop]; exact vT_8)
theorem vT_6 : (K_1400.drop 270).all (okE (cB 1400)) = true := all_piece 45 _ vL_6 (by rw [List.drop_drop]; exact vT_7)
theorem vT_5 : (K_1400.drop 225).all (okE (cB 1400)) = true := all_piece 45 _ vL_5 (by rw [List.drop_drop]; exact vT_6)
theorem vT_4 : (K_1400.drop 180).all (okE (cB 1400)) = true := all_piece 45 _ vL_4 (by rw [List.drop_drop]; exact vT_5)
theorem vT_3 : (K_1400.drop 135).all (okE (cB 1400)) = true := all_piece 45 _ vL_3 (by rw [List.drop_drop]; exact vT_4)
theorem vT_2 : (K_1400.drop 90).all (okE (cB 1400)) = true := all_piece 45 _ vL_2 (by rw [List.drop_drop]; exact vT_3)
theorem vT_1 : (K_1400.drop 45).all (okE (cB 1400)) = true := all_piece 45 _ vL_1 (by rw [List.drop_drop]; exact vT_2)
theorem vT_0 : (K_1400.drop 0).all (okE (cB 1400)) = true := all_piece 45 _ vL_0 (by rw [List.drop_drop]; exact vT_1)
theorem vE_1400 : K_1400.all (okE (cB 1400)) = true := vT_0
theorem mt_1400 : MT 1400 K_1400 LN_14 := ⟨rfl, rfl, by decide +kernel⟩
theorem okm_1400 : OKm 1400 := ⟨⟨vE_1400, okL_14, by decide +kernel⟩, by decide +kernel, by decide +kernel, by decide +kernel⟩
