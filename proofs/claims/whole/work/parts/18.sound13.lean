/-! several steps along the code's list -/
def sfx : List EN → Nat → List EN
  | [], _ => []
  | e :: r, pc => bif Nat.beq e.1 pc then e :: r else sfx r pc
/-- the list's pcs grow -/
def srt : List EN → Bool
  | [] => true
  | e :: r => (match r with
    | [] => true
    | e2 :: _ => Nat.blt e.1 e2.1) && srt r
def hdp : List EN → Nat
  | [] => 0
  | e :: _ => e.1
def stpL (lk : List (Nat × LK)) : Nat → List EN → List Value → List Value → GM → Bool × FS
  | k, [], ls, st, M => (false, k, ls, st, M)
  | 0, e :: _, ls, st, M => (true, e.1, ls, st, M)
  | k + 1, e :: r, ls, st, M => match stp lk e ls st M with
    | (b, pc', ls', st', M') => match k with
      | 0 => (b && true, pc', ls', st', M')
      | k' + 1 => match stpL lk (k' + 1) r ls' st' M' with
        | (b2, f2) => bif Nat.beq pc' (hdp r) then (b && b2, f2) else (false, f2)
theorem srt_lt : ∀ {l : List EN} {e x : EN}, srt (e :: l) = true → x ∈ l → e.1 < x.1
  | [], e, x, _, hx => absurd hx List.not_mem_nil
  | e2 :: r, e, x, h, hx => by
    unfold srt at h
    simp only [Bool.and_eq_true] at h
    have h1 := blt_iff.mp h.1
    rcases List.mem_cons.mp hx with rfl | hx
    · exact h1
    · exact Nat.lt_trans h1 (srt_lt h.2 hx)
theorem srt_tail {e : EN} {l : List EN} (h : srt (e :: l) = true) : srt l = true := by
  unfold srt at h
  rw [Bool.and_eq_true] at h
  exact h.2
theorem ftc_at : ∀ {l : List EN} {e : EN}, srt l = true → e ∈ l → ftc l e.1 = e
  | [], _, _, h => absurd h List.not_mem_nil
  | a :: r, e, hs, h => by
    unfold ftc
    rcases List.mem_cons.mp h with rfl | h
    · rw [Nat.beq_refl]; rfl
    · have hlt := srt_lt hs h
      have hne : Nat.beq a.1 e.1 = false := by
        cases q : Nat.beq a.1 e.1
        · rfl
        · have := Nat.eq_of_beq_eq_true q
          omega
      rw [hne]
      exact ftc_at (srt_tail hs) h
theorem sfx_sub : ∀ {l : List EN} {pc : Nat} {e : EN} {r : List EN}, sfx l pc = e :: r → e.1 = pc ∧ ∀ x ∈ e :: r, x ∈ l
  | [], pc, e, r, h => by cases h
  | a :: t, pc, e, r, h => by
    unfold sfx at h
    cases q : Nat.beq a.1 pc
    · rw [q] at h
      obtain ⟨h1, h2⟩ := sfx_sub h
      exact ⟨h1, fun x hx => List.mem_cons_of_mem _ (h2 x hx)⟩
    · rw [q] at h
      cases h
      exact ⟨Nat.eq_of_beq_eq_true q, fun x hx => hx⟩
/-- a method's code and links by name -/
def MT (mid : Nat) (cd : List EN) (lk : List (Nat × LK)) : Prop := cdO mid = cd ∧ lnO (clM mid) = lk ∧ srt cd = true
theorem Rc.goL0 {d mid : Nat} {cd : List EN} {lk : List (Nat × LK)} {res : Option Value × GM} (hM : MT mid cd lk) : ∀ (k : Nat) {sf : List EN} {ls st : List Value} {M : GM} {b : Bool} {f2 : FS}, (∀ x ∈ sf, x ∈ cd) → stpL lk k sf ls st M = (b, f2) → b = true → Rc d mid f2 res → Rc d mid (hdp sf, ls, st, M) res
  | k, [], ls, st, M, b, f2, _, h, hb, _ => by
    subst hb
    cases k <;> (unfold stpL at h; cases h)
  | 0, e :: r, ls, st, M, b, f2, _, h, _, hk => by
    unfold stpL at h
    cases h
    exact hk
  | k + 1, e :: r, ls, st, M, b, f2, hsub, h, hb, hk => by
    subst hb
    unfold stpL at h
    have hf : ftc (cdO mid) e.1 = e := by rw [hM.1]; exact ftc_at hM.2.2 (hsub e List.mem_cons_self)
    have key : (stp lk e ls st M).1 = true ∧ Rc d mid (stp lk e ls st M).2 res := by
      generalize stp lk e ls st M = S at h
      obtain ⟨b1, pc', ls', st', M'⟩ := S
      dsimp only at h ⊢
      cases k with
      | zero =>
        dsimp only at h
        cases h1 : b1
        · rw [h1] at h; cases h
        · rw [h1] at h
          cases h
          exact ⟨rfl, hk⟩
      | succ k' =>
        dsimp only at h
        generalize hS : stpL lk (k' + 1) r ls' st' M' = S2 at h
        obtain ⟨b2, f3⟩ := S2
        dsimp only at h
        cases hp : Nat.beq pc' (hdp r)
        · rw [hp] at h; cases h
        · rw [hp] at h
          have hp' := Nat.eq_of_beq_eq_true hp
          cases h1 : b1
          · rw [h1] at h; cases h
          · cases h2 : b2
            · rw [h1, h2] at h; cases h
            · rw [h1, h2] at h
              cases h
              subst h2
              refine ⟨rfl, ?_⟩
              rw [hp']
              exact Rc.goL0 hM (k' + 1) (fun x hx => hsub x (List.mem_cons_of_mem _ hx)) hS rfl hk
    show Rc d mid (e.1, ls, st, M) res
    refine Rc.go1 ?_ ?_
    · rw [hM.2.1, hf]; exact key.1
    · rw [hM.2.1, hf]; exact key.2
theorem Rc.goL {d mid pc : Nat} {cd : List EN} {lk : List (Nat × LK)} {ls st : List Value} {M : GM} {res : Option Value × GM} (hM : MT mid cd lk) (k : Nat) {b : Bool} {f2 : FS} (h : stpL lk (k + 1) (sfx cd pc) ls st M = (b, f2)) (hb : b = true) (hk : Rc d mid f2 res) : Rc d mid (pc, ls, st, M) res := by
  cases hs : sfx cd pc with
  | nil => rw [hs] at h; subst hb; unfold stpL at h; cases h
  | cons e r =>
    obtain ⟨h1, h2⟩ := sfx_sub hs
    rw [hs] at h
    have := Rc.goL0 hM (k + 1) h2 h hb hk
    rw [show hdp (e :: r) = pc from h1] at this
    exact this
