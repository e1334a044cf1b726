/-! at the end of the making all references are as they stay -/
set_option maxRecDepth 100000 in
theorem rEnd : ∀ c, c < 336 → (Nat.blt (K0 c) 13 || Nat.blt 24 (K0 c)) = true → ∀ i, i < Z0 c → rn_1200 (rn_1100 (fun _ _ => none)) c i = R0 c i := by decide +kernel
theorem arrV_eq {cA : ClassId} {n : Nat} {f g : Nat → Value} (h : ∀ i, i < n → f i = g i) : arrV cA n f = arrV cA n g := by
  have e : (Array.ofFn (n := n) fun i => f i.1) = Array.ofFn (n := n) fun i => g i.1 := by
    congr 1
    funext i
    exact h i.1 i.2
  first
    | (unfold arrV; rw [e])
    | (unfold arrV; congr 1)
theorem nfZ : ∀ c, c < 336 → K0 c < 13 → nf (K0 c) = Z0 c := by decide +kernel
/-- what the heap says of a cell reads no reference beyond its size -/
theorem at_eqv {D : va_G} {A : Nat × Nat × Nat} {cT : Nat → ClassId} {n : Nat} {R R' : MR} {I : MI} {L : ML} {c : Nat} {H : Heap} (hc : c < 336) (hR : (Nat.blt (K0 c) 13 || Nat.blt 24 (K0 c)) = true → ∀ i, i < Z0 c → R c i = R' c i)
    (h : va_at D cl13 (A.1 + c, cE A cT (n, R, I, L) c) H) : va_at D cl13 (A.1 + c, cE A cT (n, R', I, L) c) H := by
  have e : ∀ q, va_at D cl13 (A.1 + c, q) H → va_at D cl13 (A.1 + c, q) H := fun _ h => h
  unfold cE at h ⊢
  by_cases h1 : K0 c < 13
  · rw [if_pos h1] at h ⊢
    have hr := hR (by rw [show Nat.blt (K0 c) 13 = true from blt_iff.mpr h1]; rfl)
    rw [show (List.range (nf (K0 c))).map (fval A (n, R', I, L) (K0 c) c) = (List.range (nf (K0 c))).map (fval A (n, R, I, L) (K0 c) c) from ?_]
    · exact h
    · refine List.map_congr_left fun k hk => ?_
      have hk := List.mem_range.mp hk
      rw [nfZ c hc h1] at hk
      unfold fval
      show (match fk (K0 c) k with
        | 0 => Value.int (I c k)
        | 4 => .int (I c k)
        | 1 => .long (L c k)
        | 2 => cv A (rv (R' c k))
        | 3 => if I c k = -1 then .null else .ref (A.1 + (I c k).toNatClampNeg)
        | _ => .null) = _
      rw [← hr k hk]
      rfl
  · rw [if_neg h1] at h ⊢
    by_cases h2 : K0 c = 21
    · rw [if_pos h2] at h ⊢; exact h
    · rw [if_neg h2] at h ⊢
      by_cases h3 : 24 < K0 c ∧ K0 c < 28
      · rw [if_pos h3] at h ⊢
        have hr := hR (by rw [show Nat.blt 24 (K0 c) = true from blt_iff.mpr h3.1, Bool.or_true])
        have h : H[A.1 + c]? = some (arrV (cT (K0 c)) (Z0 c) (fun j => va_rf ((R c j).map (A.1 + ·)))) := h
        show H[A.1 + c]? = some (arrV (cT (K0 c)) (Z0 c) (fun j => va_rf ((R' c j).map (A.1 + ·))))
        rw [h, arrV_eq fun i hi => by rw [hr i hi]]
      · rw [if_neg h3] at h ⊢; exact h
theorem HR.eqv {D : va_G} {A : Nat × Nat × Nat} {cT : Nat → ClassId} {n : Nat} {R R' : MR} {I : MI} {L : ML} {U : State} {H : Heap} (hn : n ≤ 336) (hR : ∀ c, c < n → (Nat.blt (K0 c) 13 || Nat.blt 24 (K0 c)) = true → ∀ i, i < Z0 c → R c i = R' c i)
    (h : HR D cT A (n, R, I, L) U H) : HR D cT A (n, R', I, L) U H := by
  refine ⟨h.1, fun k q hq => ?_, h.2.2.1, h.2.2.2⟩
  obtain ⟨hk, rfl⟩ := wM_inv hq
  exact at_eqv (R := R) (Nat.lt_of_lt_of_le hk hn) (hR k hk) (h.2.1 k _ (wM_at (M := (n, R, I, L)) hk))
theorem Rc.eqv {d mid n pc : Nat} {ls st : List Value} {R R' : MR} {I : MI} {L : ML} {res : Option Value × GM} (hn : n ≤ 336) (hR : ∀ c, c < n → (Nat.blt (K0 c) 13 || Nat.blt 24 (K0 c)) = true → ∀ i, i < Z0 c → R c i = R' c i)
    (h : Rc d mid (pc, ls, st, (n, R', I, L)) res) : Rc d mid (pc, ls, st, (n, R, I, L)) res :=
  ⟨h.1, fun p l e Ro s m args below meth c Q D cT A cF sF hF H locs cells slots ls' hP =>
    h.2 p l e Ro s m args below meth c Q D cT A cF sF hF H locs cells slots ls' ⟨hP.1, hP.2.1, hP.2.2.1, hP.2.2.2.1, HR.eqv hn hR hP.2.2.2.2.1, hP.2.2.2.2.2⟩⟩
