/-! run, the call -/
theorem wrn_p {S : Nat → Bool} {w : Nat → Int} (hw : ∀ k, 0 ≤ w k) : ∀ (j k : Nat) (ho ho' : Nat → Int), (∀ i, k ≤ i → i < k + j → ho i = ho' i ∧ 0 ≤ ho i ∧ ho i ≤ 100) →
    (wrn S w j k ho).1 = (wrn S w j k ho').1 ∧ k + 1 ≤ (wrn S w j k ho).1 ∧ (wrn S w j k ho).1 ≤ k + j + 1 ∧ (∀ i, k ≤ i → i < k + j → (wrn S w j k ho).2 i = (wrn S w j k ho').2 i ∧ 0 ≤ (wrn S w j k ho).2 i ∧ (wrn S w j k ho).2 i ≤ 100) ∧ ∀ i, i < k ∨ k + j ≤ i → (wrn S w j k ho).2 i = ho i ∧ (wrn S w j k ho').2 i = ho' i := by
  intro j
  induction j with
  | zero => intro k ho ho' h; exact ⟨rfl, by show k + 1 ≤ k + 1; omega, by show k + 1 ≤ k + 0 + 1; omega, fun i a b => absurd b (by omega), fun i _ => ⟨rfl, rfl⟩⟩
  | succ j ih =>
    intro k ho ho' h
    have hk := h k (by omega) (by omega)
    have wk := hw k
    unfold wrn
    by_cases z : S k = true
    · rw [if_pos z, if_pos z, ← hk.1]
      by_cases y : ho k - w k ≤ 0
      · rw [if_pos y, if_pos y]
        refine ⟨rfl, by show k + 1 ≤ k + 1; omega, by show k + 1 ≤ _; omega, fun i a b => ?_, fun i a => ?_⟩
        · have hi := h i a b
          dsimp only
          by_cases e : i = k
          · rw [if_pos e, if_pos e]; omega
          · rw [if_neg e, if_neg e]; exact hi
        · dsimp only
          rw [if_neg (by omega), if_neg (by omega)]; exact ⟨rfl, rfl⟩
      · rw [if_neg y, if_neg y]
        obtain ⟨q1, q2, q3, q4, q5⟩ := ih (k + 1) (fun i => if i = k then ho k - w k else ho i) (fun i => if i = k then ho k - w k else ho' i) (fun i a b => by
          rw [if_neg (by omega), if_neg (by omega)]; exact h i (by omega) (by omega))
        refine ⟨q1, by omega, by omega, fun i a b => ?_, fun i a => ?_⟩
        · by_cases e : i = k
          · have := q5 i (by omega)
            rw [if_pos e, if_pos e] at this
            rw [this.1, this.2]
            omega
          · exact q4 i (by omega) (by omega)
        · have := q5 i (by omega)
          rw [if_neg (by omega), if_neg (by omega)] at this
          exact this
    · rw [if_neg z, if_neg z]
      obtain ⟨q1, q2, q3, q4, q5⟩ := ih (k + 1) ho ho' (fun i a b => h i (by omega) (by omega))
      refine ⟨q1, by omega, by omega, fun i a b => ?_, fun i a => q5 i (by omega)⟩
      by_cases e : i = k
      · have := q5 i (by omega)
        rw [this.1, this.2, e]
        exact hk
      · exact q4 i (by omega) (by omega)
