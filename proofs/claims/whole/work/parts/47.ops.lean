/-- what one pass makes sure: 1 or 0 -/
def chg (ins su : Nat → Int32) (g : Nat → Nat) (N A i : Nat) : Nat := if ¬ ins i = 0 ∧ su i = 0 ∧ A ≤ N * g i then 1 else 0
def chw (ins su : Nat → Int32) (g : Nat → Nat) (N A i : Nat) : Nat := if ¬ ins i = 0 ∧ su i = 0 ∧ A ≤ N * g i then g i else 0
/-- sure, after the first s were looked at -/
def psu (ins su : Nat → Int32) (g : Nat → Nat) (N A s : Nat) : Nat → Int32 := fun p => if p < s ∧ ¬ ins p = 0 ∧ su p = 0 ∧ A ≤ N * g p then 1 else su p
def flg (c : Nat) : Int32 := if c = 0 then 0 else 1
theorem flg01 (c : Nat) : flg c = 0 ∨ flg c = 1 := by
  unfold flg
  split
  · exact Or.inl rfl
  · exact Or.inr rfl
theorem psu_at (ins su : Nat → Int32) (g : Nat → Nat) (N A s : Nat) : psu ins su g N A s s = su s := by
  unfold psu
  rw [if_neg (by omega)]
theorem psu_0 (ins su : Nat → Int32) (g : Nat → Nat) (N A : Nat) : psu ins su g N A 0 = su := by
  funext p
  unfold psu
  rw [if_neg (by omega)]
theorem psu_y (ins su : Nat → Int32) (g : Nat → Nat) {N A s : Nat} (h : ¬ ins s = 0 ∧ su s = 0 ∧ A ≤ N * g s) : psu ins su g N A (s + 1) = upd (psu ins su g N A s) s 1 := by
  funext p
  unfold psu upd
  by_cases e : p = s
  · subst e
    rw [if_pos ⟨by omega, h⟩, if_pos rfl]
  · rw [if_neg e]
    show _ = (if p < s ∧ ¬ ins p = 0 ∧ su p = 0 ∧ A ≤ N * g p then (1 : Int32) else su p)
    by_cases e2 : p < s ∧ ¬ ins p = 0 ∧ su p = 0 ∧ A ≤ N * g p
    · rw [if_pos e2, if_pos ⟨by omega, e2.2⟩]
    · rw [if_neg e2, if_neg (fun q => e2 ⟨by omega, q.2⟩)]
theorem psu_n (ins su : Nat → Int32) (g : Nat → Nat) {N A s : Nat} (h : ¬ (¬ ins s = 0 ∧ su s = 0 ∧ A ≤ N * g s)) : psu ins su g N A (s + 1) = psu ins su g N A s := by
  funext p
  unfold psu
  by_cases e2 : p < s ∧ ¬ ins p = 0 ∧ su p = 0 ∧ A ≤ N * g p
  · rw [if_pos e2, if_pos ⟨by omega, e2.2⟩]
  · rw [if_neg e2, if_neg (fun q => e2 ⟨by
      rcases Nat.lt_or_ge p s with z | z
      · exact z
      · exact absurd ((show p = s by omega) ▸ q.2) h, q.2⟩)]
