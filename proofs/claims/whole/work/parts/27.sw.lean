/-! ===== the two acts change places ===== -/
theorem gR0_sw (w : Bool) : gu2 (gu2 (gR0 w) 0 10 (some (gact (!w)))) 0 11 (some (gact w)) = gR0 (!w) := by
  funext x y
  unfold gu2 gR0
  by_cases h1 : x = 0 ∧ y = 11
  · obtain ⟨rfl, rfl⟩ := h1
    simp
  · rw [if_neg h1]
    by_cases h2 : x = 0 ∧ y = 10
    · rw [if_pos h2, if_pos h2]
    · rw [if_neg h2, if_neg h2, if_neg h1, if_neg h2, if_neg h1]
theorem G_sw {l : Launch} {mi : gMI} {d mc ms : Nat} {Q : gQt} {k n pc : Nat} {lv : List (Option Value)} {st : List Value} {S : gSt} {I : gIt} {J : gJt} {w : Bool} (kk : ∀ w', w' = (!w) → G l mi d mc ms Q k n pc lv st S I J (gR0 w')) : G l mi d mc ms Q k n pc lv st S I J (gu2 (gu2 (gR0 w) 0 10 (some (gact (!w)))) 0 11 (some (gact w))) := by
  rw [gR0_sw]
  exact kk _ rfl
