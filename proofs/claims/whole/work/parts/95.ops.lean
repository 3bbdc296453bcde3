/-! choosing the split -/
theorem tb_ (n i : Nat) : n.testBit i = decide (n / 2 ^ i % 2 = 1) := Nat.testBit_eq_decide_div_mod_eq
theorem m1bv : (-1 : Int32).toBitVec = BitVec.allOnes 32 := by decide +kernel
theorem sub_ok {f m : Nat} (hf : f < 256) : nI f &&& (nI m ^^^ -1) = 0 ↔ ∀ i, i < 8 → f / 2 ^ i % 2 = 1 → m / 2 ^ i % 2 = 1 := by
  have e : (nI f &&& (nI m ^^^ -1)).toBitVec = BitVec.ofNat 32 f &&& (BitVec.ofNat 32 m ^^^ BitVec.allOnes 32) := by
    rw [Int32.toBitVec_and, Int32.toBitVec_xor, m1bv]
    rfl
  have bitv : ∀ i, i < 32 → (nI f &&& (nI m ^^^ -1)).toBitVec.getLsbD i = (decide (f / 2 ^ i % 2 = 1) && !decide (m / 2 ^ i % 2 = 1)) := by
    intro i hi
    rw [e]
    simp only [BitVec.getLsbD_and, BitVec.getLsbD_xor, BitVec.getLsbD_ofNat, BitVec.getLsbD_allOnes, tb_, decide_eq_true hi, Bool.true_and, Bool.xor_true]
  constructor
  · intro h i hi hfi
    have q := bitv i (by omega)
    rw [h, show (0 : Int32).toBitVec = 0#32 from rfl, BitVec.getLsbD_zero] at q
    by_cases z : m / 2 ^ i % 2 = 1
    · exact z
    · rw [decide_eq_true hfi, decide_eq_false z] at q
      cases q
  · intro h
    rw [← Int32.toBitVec_inj]
    refine BitVec.eq_of_getLsbD_eq (fun i hi => ?_)
    rw [bitv i hi, show (0 : Int32).toBitVec = 0#32 from rfl, BitVec.getLsbD_zero]
    by_cases y : f / 2 ^ i % 2 = 1
    · by_cases i8 : i < 8
      · rw [decide_eq_true y, decide_eq_true (h i i8 y)]
        rfl
      · have : 256 ≤ 2 ^ i := Nat.pow_le_pow_right (n := 2) (by omega) (show 8 ≤ i by omega)
        rw [Nat.div_eq_of_lt (by omega)] at y
        omega
    · rw [decide_eq_false y]
      rfl
theorem cp_b : ∀ W, W < 9 → ∀ f, f < 2 ^ W → ∀ i, i < W → (2 ^ W - 1 - f) / 2 ^ i % 2 = 1 - f / 2 ^ i % 2 := by decide +kernel
def nx (k : Bool) (lo so : Nat → Nat) (w : Nat) : Option Nat → Option Nat
  | none => if k = true then some w else none
  | some b => if k = true then (if lo w < lo b then some w else if lo w = lo b then (if so b ≤ so w then some b else some w) else some b) else some b
def bst (ok : Nat → Bool) (lo so : Nat → Nat) : Nat → Option Nat
  | 0 => none
  | k + 1 => nx (ok k) lo so k (bst ok lo so k)
theorem nx_n (k : Bool) (lo so : Nat → Nat) (w : Nat) : nx k lo so w none = if k = true then some w else none := rfl
theorem nx_s (k : Bool) (lo so : Nat → Nat) (w b : Nat) : nx k lo so w (some b) = if k = true then (if lo w < lo b then some w else if lo w = lo b then (if so b ≤ so w then some b else some w) else some b) else some b := rfl
theorem nx_0 (lo so : Nat → Nat) (w : Nat) (o : Option Nat) : nx false lo so w o = o := by
  cases o <;> rfl
theorem bst_lt {ok : Nat → Bool} {lo so : Nat → Nat} : ∀ {k b : Nat}, bst ok lo so k = some b → b < k := by
  intro k
  induction k with
  | zero => exact fun h => by cases h
  | succ k ih =>
    intro b h
    unfold bst at h
    generalize hq : bst ok lo so k = o at h ih
    cases o with
    | none =>
      rw [nx_n] at h
      split at h
      · cases h; omega
      · cases h
    | some x =>
      have hx := ih rfl
      rw [nx_s] at h
      split at h
      · split at h
        · cases h; omega
        · split at h
          · split at h
            · cases h; omega
            · cases h; omega
          · cases h; omega
      · cases h; omega
def cSt (W : Nat) (lo so : Nat → Nat) (X : mm_M) : Option Nat → Prop
  | none => X.1 10 9 = 0
  | some b => X.1 10 9 = 1 ∧ X.1 10 8 = nI (2 ^ W - 1 - b) ∧ X.1 10 10 = nI (lo b) ∧ X.1 10 11 = nI (so b)
def rSt (W : Nat) (lo so : Nat → Nat) (X : mm_M) : Option Nat → Prop
  | none => X.1 0 65 = -1
  | some b => X.1 0 65 = nI (rv W b) ∧ X.1 0 66 = nI (lo b) ∧ X.1 0 67 = nI (so b)
def f10 (X X' : mm_M) : Prop := (∀ a, a ≠ 10 → X'.1 a = X.1 a) ∧ X'.1 10 7 = X.1 10 7
def f00 (X X' : mm_M) : Prop := (∀ a, a ≠ 0 → X'.1 a = X.1 a) ∧ ∀ j, j ≠ 65 → j ≠ 66 → j ≠ 67 → X'.1 0 j = X.1 0 j
theorem f10_t {A B C : mm_M} (h : f10 A B) (g : f10 B C) : f10 A C := ⟨fun a ha => (g.1 a ha).trans (h.1 a ha), g.2.trans h.2⟩
theorem f00_t {A B C : mm_M} (h : f00 A B) (g : f00 B C) : f00 A C := ⟨fun a ha => (g.1 a ha).trans (h.1 a ha), fun j h1 h2 h3 => (g.2 j h1 h2 h3).trans (h.2 j h1 h2 h3)⟩
theorem offer_c {W w z : Nat} {lo so : Nat → Nat} {X : mm_M} {o : Option Nat} (hz : z ≤ 2000) (hb : ∀ b, b = w ∨ o = some b → lo b ≤ 50000 ∧ so b ≤ 50000) (hs : cSt W lo so X o) : ∃ X', f_X4_offer (nI (2 ^ W - 1 - w)) (nI (lo w)) (nI (so w)) (nI z) X = some X' ∧ f10 X X' ∧ cSt W lo so X' (nx (decide (lo w ≤ z)) lo so w o) := by
  have hw := hb w (Or.inl rfl)
  have put : ∃ X', f_X4_offer_38 (nI (2 ^ W - 1 - w)) (nI (lo w)) (nI (so w)) X = some X' ∧ f10 X X' ∧ cSt W lo so X' (some w) := by
    unfold f_X4_offer_38
    rw [let_, let_, let_, let_]
    refine ⟨_, rfl, ⟨fun a ha => ?_, ?_⟩, ?_, ?_, ?_, ?_⟩
    · simp only [s1, s2, l1, l2, upd_at, Nat.reduceEqDiff, reduceIte, ha]
    · simp only [s1, s2, l1, l2, upd_at, Nat.reduceEqDiff, reduceIte]
    · simp only [s1, s2, l1, l2, upd_at, Nat.reduceEqDiff, reduceIte]
    · simp only [s1, s2, l1, l2, upd_at, Nat.reduceEqDiff, reduceIte]
    · simp only [s1, s2, l1, l2, upd_at, Nat.reduceEqDiff, reduceIte]
    · simp only [s1, s2, l1, l2, upd_at, Nat.reduceEqDiff, reduceIte]
  have stay : ∃ X', some X = some X' ∧ f10 X X' ∧ cSt W lo so X' o := ⟨X, rfl, ⟨fun _ _ => rfl, rfl⟩, hs⟩
  unfold f_X4_offer mI
  by_cases e : lo w ≤ z
  · rw [if_pos (nI_le e (by omega)), decide_eq_true e]
    cases o with
    | none =>
      rw [if_pos (show X.1 10 9 = 0 from hs)]
      exact put
    | some b =>
      obtain ⟨c1, c2, c3, c4⟩ := hs
      have hbb := hb b (Or.inr rfl)
      rw [c1, if_neg n10, c3, c4]
      rw [nx_s, if_pos rfl]
      by_cases e1' : lo w < lo b
      · rw [if_pos ((nI_ltI (by omega) (by omega)).mpr e1'), if_pos e1']
        exact put
      · rw [if_neg (fun q => e1' ((nI_ltI (by omega) (by omega)).mp q)), if_neg e1']
        by_cases e2' : lo w = lo b
        · rw [if_pos ((nI_eq (by omega) (by omega)).mpr e2'), if_pos e2']
          by_cases e3' : so b ≤ so w
          · rw [if_pos (nI_le e3' (by omega)), if_pos e3']
            exact stay
          · rw [if_neg (nI_ge (by omega) (by omega)), if_neg e3']
            exact put
        · rw [if_neg (fun q => e2' ((nI_eq (by omega) (by omega)).mp q)), if_neg e2']
          exact stay
  · rw [if_neg (nI_ge (by omega) (by omega)), decide_eq_false e, nx_0]
    exact stay
theorem f242 {W w : Nat} {lo so : Nat → Nat} {X : mm_M} {o : Option Nat} {t1 t2 : Nat} (k : Bool) (ht : nI t1 + nI t2 - nI (lo w) = nI (so w)) (hW : ∀ b, o = some b → rv W b < 256) (hb : ∀ b, b = w ∨ o = some b → lo b ≤ 50000 ∧ so b ≤ 50000) (hs : rSt W lo so X o) (K : Int32 → mm_M → Option mm_M) : ∃ X', f_X12_findWork_242 K (nI w) (nI (rv W w)) (nI t1) (nI t2) (nI (lo w)) (if k = true then 1 else 0) X = K (nI (w + 1)) X' ∧ f00 X X' ∧ rSt W lo so X' (nx k lo so w o) := by
  have hw := hb w (Or.inl rfl)
  have put : ∃ X', f_X12_findWork_289 K (nI w) (nI (rv W w)) (nI t1) (nI t2) (nI (lo w)) X = K (nI (w + 1)) X' ∧ f00 X X' ∧ rSt W lo so X' (some w) := by
    unfold f_X12_findWork_289 f_X12_findWork_313
    rw [let_, let_, let_, ht, add1]
    refine ⟨_, rfl, ⟨fun a ha => ?_, fun j j1 j2 j3 => ?_⟩, ?_, ?_, ?_⟩
    · simp only [s1, s2, l1, l2, upd_at, Nat.reduceEqDiff, reduceIte, ha]
    · simp only [s1, s2, l1, l2, upd_at, Nat.reduceEqDiff, reduceIte, j1, j2, j3]
    · simp only [s1, s2, l1, l2, upd_at, Nat.reduceEqDiff, reduceIte]
    · simp only [s1, s2, l1, l2, upd_at, Nat.reduceEqDiff, reduceIte]
    · simp only [s1, s2, l1, l2, upd_at, Nat.reduceEqDiff, reduceIte]
  have stay : ∃ X', f_X12_findWork_313 K (nI w) X = K (nI (w + 1)) X' ∧ f00 X X' ∧ rSt W lo so X' o := by
    unfold f_X12_findWork_313
    rw [add1]
    exact ⟨X, rfl, ⟨fun _ _ => rfl, fun _ _ _ _ => rfl⟩, hs⟩
  unfold f_X12_findWork_242 mI
  cases k with
  | false =>
    rw [if_pos (show (if false = true then (1 : Int32) else 0) = 0 from rfl), nx_0]
    exact stay
  | true =>
    rw [if_pos rfl, if_neg n10]
    cases o with
    | none =>
      rw [show X.1 0 65 = -1 from hs, if_pos m1lt]
      exact put
    | some b =>
      obtain ⟨c1, c2, c3⟩ := hs
      have hbb := hb b (Or.inr rfl)
      have := hW b rfl
      rw [c1, if_neg (nI_pos (by omega)), c2, c3, ht]
      rw [nx_s, if_pos rfl]
      by_cases e1' : lo w < lo b
      · rw [if_pos ((nI_ltI (by omega) (by omega)).mpr e1'), if_pos e1']
        exact put
      · rw [if_neg (fun q => e1' ((nI_ltI (by omega) (by omega)).mp q)), if_neg e1']
        by_cases e2' : lo w = lo b
        · rw [if_pos ((nI_eq (by omega) (by omega)).mpr e2'), if_pos e2']
          by_cases e3' : so b ≤ so w
          · rw [if_pos (nI_le e3' (by omega)), if_pos e3']
            exact stay
          · rw [if_neg (nI_ge (by omega) (by omega)), if_neg e3']
            exact put
        · rw [if_neg (fun q => e2' ((nI_eq (by omega) (by omega)).mp q)), if_neg e2']
          exact stay
/-- the longer and the shorter time of the way w -/
def loF (W : Nat) (T : Nat → Nat) (w : Nat) : Nat := if T (rv W (2 ^ W - 1 - w)) < T (rv W w) then T (rv W w) else T (rv W (2 ^ W - 1 - w))
def soF (W : Nat) (T : Nat → Nat) (w : Nat) : Nat := if T (rv W w) < T (rv W (2 ^ W - 1 - w)) then T (rv W w) else T (rv W (2 ^ W - 1 - w))
/-- may the way w be, by who may do which stop -/
def alP (W : Nat) (p q : Nat → Prop) (c : Nat) : Prop := ∀ i, i < W → (c / 2 ^ (W - 1 - i) % 2 = 1 → p i) ∧ (¬ c / 2 ^ (W - 1 - i) % 2 = 1 → q i)
theorem isAl {W : Nat} {px py sh : Nat → Nat} {C : mm_M} (h : plC W px py sh C) {p q : Nat → Prop} (hp : ∀ i, i < W → (C.1 66 i = 0 ↔ ¬ p i) ∧ (C.1 67 i = 0 ↔ ¬ q i)) {c : Nat} (hc : c < 256) : ∃ x, f_X4_isAllowed (nI c) C = some (x, C) ∧ (x = 0 ∨ x = 1) ∧ (x = 0 ↔ ¬ alP W p q c) := by
  have hW := h.2.1
  have key : ∀ (m s n : Nat), s + m = W → m < n → ∃ x, f_X4_isAllowed_2 n (nI c) (nI s) C = some (x, C) ∧ (x = 0 ∨ x = 1) ∧ (x = 0 ↔ ¬ ∀ i, s ≤ i → i < W → (c / 2 ^ (W - 1 - i) % 2 = 1 → p i) ∧ (¬ c / 2 ^ (W - 1 - i) % 2 = 1 → q i)) := by
    intro m
    induction m with
    | zero =>
      intro s n h1 h2
      obtain ⟨n, rfl⟩ : ∃ q, n = q + 1 := ⟨n - 1, by omega⟩
      refine ⟨1, ?_, Or.inr rfl, ?_⟩
      · unfold f_X4_isAllowed_2 mI
        rw [h.1, if_pos (nI_le (by omega) (by omega))]
      · exact iff_of_false n10 (fun z => z (fun i i1 i2 => absurd i2 (by omega)))
    | succ m ih =>
      intro s n h1 h2
      obtain ⟨n, rfl⟩ : ∃ q, n = q + 1 := ⟨n - 1, by omega⟩
      obtain ⟨x, x1, x2, x3⟩ := ih (s + 1) n (by omega) (by omega)
      have hand := and_j c hc (W - 1 - s) (by omega)
      obtain ⟨p1, p2⟩ := hp s (by omega)
      unfold f_X4_isAllowed_2 f_X4_isAllowed_43
      rw [show mI C 10 7 = nI W from h.1, if_neg (nI_ge (by omega) (by omega)), bit_c h (show s < W by omega), bi_, ckI (by omega) (by omega), ckI (by omega) (by omega), clI (by omega), add1, x1]
      unfold mI
      by_cases e : c / 2 ^ (W - 1 - s) % 2 = 1
      · rw [if_neg (fun q => by have := hand.mp q; omega)]
        by_cases y : C.1 66 s = 0
        · rw [if_pos y]
          exact ⟨0, rfl, Or.inl rfl, iff_of_true rfl (fun z => p1.mp y ((z s (by omega) (by omega)).1 e))⟩
        · rw [if_neg y]
          refine ⟨x, rfl, x2, x3.trans (not_congr ⟨fun z i i1 i2 => ?_, fun z i i1 i2 => z i (by omega) i2⟩)⟩
          by_cases k : i = s
          · subst k
            exact ⟨fun _ => Classical.byContradiction (fun w => y (p1.mpr w)), fun w => absurd e w⟩
          · exact z i (by omega) i2
      · rw [if_pos (hand.mpr (by omega))]
        by_cases y : C.1 67 s = 0
        · rw [if_pos y]
          exact ⟨0, rfl, Or.inl rfl, iff_of_true rfl (fun z => p2.mp y ((z s (by omega) (by omega)).2 e))⟩
        · rw [if_neg y]
          refine ⟨x, rfl, x2, x3.trans (not_congr ⟨fun z i i1 i2 => ?_, fun z i i1 i2 => z i (by omega) i2⟩)⟩
          by_cases k : i = s
          · subst k
            exact ⟨fun w => absurd w e, fun _ => Classical.byContradiction (fun w => y (p2.mpr w))⟩
          · exact z i (by omega) i2
  obtain ⟨x, x1, x2, x3⟩ := key W 0 mm_fu (by omega) (fuGt (by omega))
  exact ⟨x, x1, x2, x3.trans (not_congr ⟨fun z i i2 => z i (by omega) i2, fun z i _ i2 => z i i2⟩)⟩
