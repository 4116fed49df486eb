/-! the law's loop, whole -/
theorem ua_nn (x : Int) : 0 ≤ ua x := by unfold ua; split <;> decide
theorem U_nn (h : Hp) : 0 ≤ Us h ∧ 0 ≤ Ur h := by
  have s : ∀ (l : List Int), 0 ≤ (l.map (fun b => ua (rd h b 5))).sum := by
    intro l
    induction l with
    | nil => exact Int.le_refl 0
    | cons x l ih =>
      rw [List.map_cons, List.sum_cons]
      have := ua_nn (rd h x 5)
      omega
  exact ⟨s sdL, s rwL⟩
theorem law_loop {F : Nat} {L : Int} (hF : 6000 ≤ F) (h0 : 0 ≤ L) (hL : L ≤ 3072) : ∀ (d M : Nat) (n : Int) (h : Hp) (Λ : Nat → Lw), JJ n h Λ → 0 ≤ n → n ≤ 512 → hln h (-1) = L → 512 - n ≤ d → d < M → ∃ h', Law_law_L18 F M (-1) 1 194 (6 * n) h = some (1, h') ∧ hsz h' ≤ 600001 ∧ hus h' ≤ 7302250 := by
  have fin : ∀ (M : Nat) (n : Int) (h : Hp) (Λ : Nat → Lw), JJ n h Λ → 0 ≤ n → n ≤ 512 → hln h (-1) = L → ¬ 6 * n + 6 ≤ L → ∃ h', Law_law_L18 F (M + 1) (-1) 1 194 (6 * n) h = some (1, h') ∧ hsz h' ≤ 600001 ∧ hus h' ≤ 7302250 := by
    intro M n h Λ j n0 n1 hl hc
    have rm := j.2.2.2.2.2.2
    have u := U_nn h
    unfold Rm at rm
    refine ⟨h, ?_, by omega, by omega⟩
    show Law_law_L18s F (Law_law_L18 F M) (-1) 1 194 (6 * n) h = _
    unfold Law_law_L18s
    have w : w32 (L - 6) = L - 6 := w32_id (by omega) (by omega)
    rw [xn_ok, hl, w, if_pos (by clear w; omega), rz_1]
  intro d
  induction d with
  | zero =>
    intro M n h Λ j n0 n1 hl hd hM
    obtain ⟨M, rfl⟩ : ∃ m, M = m + 1 := ⟨M - 1, by omega⟩
    exact fin M n h Λ j n0 n1 hl (by omega)
  | succ d ih =>
    intro M n h Λ j n0 n1 hl hd hM
    obtain ⟨M, rfl⟩ : ∃ m, M = m + 1 := ⟨M - 1, by omega⟩
    by_cases c : 6 * n + 6 ≤ L
    · obtain ⟨h2, Λ', e, jj, hl2⟩ := law_turn (F := F) hF j n0 (by omega) hl c hL (Law_law_L18 F M)
      obtain ⟨h', e1, e2⟩ := ih M (n + 1) h2 Λ' jj (by omega) (by omega) hl2 (by omega) (by omega)
      refine ⟨h', ?_, e2⟩
      show Law_law_L18s F (Law_law_L18 F M) (-1) 1 194 (6 * n) h = _
      rw [e]
      exact e1
    · exact fin M n h Λ j n0 n1 hl c
