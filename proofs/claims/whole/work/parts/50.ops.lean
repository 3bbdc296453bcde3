/-! tools: loops; numbers -/
theorem lp {β : Type} (G : Nat → Nat → β) {c : Nat} {out : β} (hs : ∀ s n, s < c → G (n + 1) s = G n (s + 1)) (he : ∀ n, G (n + 1) c = out) : ∀ (m s n : Nat), s + m = c → m < n → G n s = out := by
  intro m
  induction m with
  | zero =>
    intro s n h1 h2
    obtain ⟨n, rfl⟩ : ∃ q, n = q + 1 := ⟨n - 1, by omega⟩
    obtain rfl : s = c := by omega
    exact he n
  | succ m ih =>
    intro s n h1 h2
    obtain ⟨n, rfl⟩ : ∃ q, n = q + 1 := ⟨n - 1, by omega⟩
    rw [hs s n (by omega)]
    exact ih (s + 1) n (by omega) (by omega)
theorem lpf {β : Type} (G : Nat → Nat → β) {c : Nat} {out : β} (hc : c < 99999) (hs : ∀ s n, s < c → G (n + 1) s = G n (s + 1)) (he : ∀ n, G (n + 1) c = out) : G mm_fu 0 = out := lp G hs he c 0 mm_fu (by omega) (fuGt (by omega))
theorem lpM {σ β : Type} (F : Nat → Nat → σ → β) (I : Nat → σ → Prop) (Q : β → Prop) {c : Nat} (hs : ∀ s n x, s < c → I s x → (∀ x', I (s + 1) x' → Q (F n (s + 1) x')) → Q (F (n + 1) s x)) (he : ∀ n x, I c x → Q (F (n + 1) c x)) : ∀ (m s n : Nat) (x : σ), s + m = c → m < n → I s x → Q (F n s x) := by
  intro m
  induction m with
  | zero =>
    intro s n x h1 h2 h3
    obtain ⟨n, rfl⟩ : ∃ q, n = q + 1 := ⟨n - 1, by omega⟩
    obtain rfl : s = c := by omega
    exact he n x h3
  | succ m ih =>
    intro s n x h1 h2 h3
    obtain ⟨n, rfl⟩ : ∃ q, n = q + 1 := ⟨n - 1, by omega⟩
    exact hs s n x (by omega) h3 (fun x' h => ih (s + 1) n x' (by omega) (by omega) h)
theorem lpMf {σ β : Type} (F : Nat → Nat → σ → β) (I : Nat → σ → Prop) (Q : β → Prop) {c : Nat} (x : σ) (hc : c < 99999) (h0 : I 0 x) (hs : ∀ s n x, s < c → I s x → (∀ x', I (s + 1) x' → Q (F n (s + 1) x')) → Q (F (n + 1) s x)) (he : ∀ n x, I c x → Q (F (n + 1) c x)) : Q (F mm_fu 0 x) := lpM F I Q hs he c 0 mm_fu x (by omega) (fuGt (by omega)) h0
theorem e0 {j : Nat} (h : j < 2 ^ 31) : (nI j = 0) ↔ j = 0 := nI_eq (b := 0) h (by decide)
theorem e1 {j : Nat} (h : j < 2 ^ 31) : (nI j = 1) ↔ j = 1 := nI_eq (b := 1) h (by decide)
theorem ge0 {j : Nat} (h : j < 2 ^ 31) : (0 ≤ nI j) ↔ True := iff_of_true (nI_pos' h) trivial
theorem lt0 {j : Nat} (h : j < 2 ^ 31) : (nI j < 0) ↔ False := iff_of_false (nI_pos h) id
theorem le0 {j : Nat} (h : j < 2 ^ 31) : (nI j ≤ 0) ↔ j = 0 := (nI_leI (b := 0) h (by decide)).trans Nat.le_zero
theorem gt0 {j : Nat} (h : j < 2 ^ 31) : (0 < nI j) ↔ 0 < j := nI_ltI (a := 0) (by decide) h
theorem lt1 {j : Nat} (h : j < 2 ^ 31) : (nI j < 1) ↔ j < 1 := nI_ltI (b := 1) h (by decide)
theorem ad0 (a : Nat) : nI a + 0 = nI a := nI_add a 0
theorem l2_ : (2 : Int32) = nI 2 := rfl
theorem l3 : (3 : Int32) = nI 3 := rfl
theorem l4 : (4 : Int32) = nI 4 := rfl
theorem l5 : (5 : Int32) = nI 5 := rfl
theorem l6 : (6 : Int32) = nI 6 := rfl
theorem l7 : (7 : Int32) = nI 7 := rfl
theorem l8 : (8 : Int32) = nI 8 := rfl
theorem l9 : (9 : Int32) = nI 9 := rfl
theorem l10 : (10 : Int32) = nI 10 := rfl
theorem l12 : (12 : Int32) = nI 12 := rfl
theorem l13 : (13 : Int32) = nI 13 := rfl
theorem l20 : (20 : Int32) = nI 20 := rfl
theorem l26 : (26 : Int32) = nI 26 := rfl
theorem l30 : (30 : Int32) = nI 30 := rfl
theorem l40 : (40 : Int32) = nI 40 := rfl
theorem l80 : (80 : Int32) = nI 80 := rfl
theorem l99 : (99 : Int32) = nI 99 := rfl
theorem l100 : (100 : Int32) = nI 100 := rfl
theorem l240 : (240 : Int32) = nI 240 := rfl
theorem l320 : (320 : Int32) = nI 320 := rfl
theorem l999 : (999 : Int32) = nI 999 := rfl
theorem l1000 : (1000 : Int32) = nI 1000 := rfl
theorem l2000 : (2000 : Int32) = nI 2000 := rfl
/-- every number of a row within a range, as a number -/
theorem rng_of {x : Int32} {lo hi : Nat} (h : rng x lo hi) : ∃ k, x = nI k ∧ lo ≤ k ∧ k ≤ hi := h
def nN (x : Int32) : Nat := x.toNatClampNeg
theorem rng_n {x : Int32} {lo hi : Nat} (h : rng x lo hi) (hh : hi < 2 ^ 31) : x = nI (nN x) ∧ lo ≤ nN x ∧ nN x ≤ hi := by
  obtain ⟨k, rfl, h1, h2⟩ := h
  unfold nN
  rw [clI (by omega)]
  exact ⟨rfl, h1, h2⟩
theorem nN_nI {k : Nat} (h : k < 2 ^ 31) : nN (nI k) = k := clI h
theorem bw1 {x : Int32} (h : x = 0 ∨ x = 1) : x &&& 1 = x := by
  rcases h with rfl | rfl <;> rfl
theorem bzx {α : Type} {x : Int32} (h : x = 0 ∨ x = 1) (X : Option α) : mm_bz x X = X := by
  rcases h with rfl | rfl <;> rfl
theorem rn01 {x : Int32} (h : rng x 0 1) : x = 0 ∨ x = 1 := by
  obtain ⟨k, rfl, h1, h2⟩ := h
  rcases (show k = 0 ∨ k = 1 by omega) with rfl | rfl
  · exact Or.inl rfl
  · exact Or.inr rfl
theorem of01 {x : Int32} (h : x = 0 ∨ x = 1) : rng x 0 1 := by
  rcases h with rfl | rfl
  · exact ⟨0, rfl, by omega, by omega⟩
  · exact ⟨1, rfl, by omega, by omega⟩
