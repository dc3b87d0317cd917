/-! LAYER 2, load: the setup text, its tokens -/
def zrn (f : Int → Bool) (b : Nat → Int) (n : Nat) : Nat → Nat → Nat
  | 0, p => p
  | k + 1, p => if p < n ∧ f (b p) = true then zrn f b n k (p + 1) else p
def zru (f : Int → Bool) (b : Nat → Int) (n p : Nat) : Nat := zrn f b n (n - p) p
def zsp (c : Int) : Bool := decide (c = 32)
def zdg (c : Int) : Bool := decide (48 ≤ c ∧ c ≤ 57)
def zlt (c : Int) : Bool := decide (97 ≤ c ∧ c ≤ 122)
def zkd (b : Nat → Int) (n p : Nat) : Int := if n ≤ p then -1 else if 48 ≤ b p ∧ b p ≤ 57 then 257 else if 97 ≤ b p ∧ b p ≤ 122 then 256 else b p
def zte (b : Nat → Int) (n p : Nat) : Nat := if n ≤ p then p else if 48 ≤ b p ∧ b p ≤ 57 then zru zdg b n p else if 97 ≤ b p ∧ b p ≤ 122 then zru zlt b n p else p + 1
def znx (b : Nat → Int) (n p : Nat) : Nat := zru zsp b n (zte b n p)
def zvl (b : Nat → Int) (p : Nat) : Nat → Int
  | 0 => 0
  | k + 1 => 10 * zvl b p k + (b (p + k) - 48)
def znu (b : Nat → Int) (n p : Nat) : Int := zvl b p (zte b n p - p)
def zBy (b : Nat → Int) (n p : Nat) : Int := if p < n then b p else -1
def zIw (b : Nat → Int) (n s p : Nat) : Prop := zkd b n p = 256 ∧ (zte b n p : Int) - p = xSl s ∧ ∀ i : Nat, (i : Int) < xSl s → b (p + i) = xSc s i
def zTx (b : Nat → Int) (n x : Nat) (M : xMe) : Prop := M (x + 2) 2 = (n : Int) ∧ ∀ j : Nat, j < n → (-128 ≤ M (x + 3) j ∧ M (x + 3) j ≤ 127) ∧ b j = M (x + 3) j % 256
def zTk (b : Nat → Int) (n p x : Nat) (M : xMe) : Prop := M (x + 2) 5 = (p : Int) ∧ M (x + 2) 3 = (zte b n p : Int) ∧ M (x + 2) 4 = zkd b n p ∧ (zkd b n p = 257 → M (x + 2) 6 = min 100000 (znu b n p))
def zMx (b : Nat → Int) (n m : Nat) (M : xMe) : Prop := M m 3 = (n : Int) ∧ ∀ j : Nat, j < n → M (m + 1) j = b j
section ZT
variable {f : Int → Bool} {b : Nat → Int} {n p q k x m F s E P : Nat} {M M' : xMe} {Q K : xMe → Prop} {R : Int → xMe → Prop}
theorem zrn_ge : ∀ (k p : Nat), p ≤ zrn f b n k p
  | 0, p => Nat.le_refl p
  | k + 1, p => by
    unfold zrn
    split
    · have := zrn_ge k (p + 1); omega
    · exact Nat.le_refl p
theorem zrn_in : ∀ (k p q : Nat), p ≤ q → q < zrn f b n k p → q < n ∧ f (b q) = true
  | 0, p, q, h1, h2 => by unfold zrn at h2; omega
  | k + 1, p, q, h1, h2 => by
    unfold zrn at h2
    split at h2
    · rename_i c
      by_cases e : q = p
      · rw [e]; exact c
      · exact zrn_in k (p + 1) q (by omega) h2
    · omega
theorem zrn_end : ∀ (k p : Nat), n ≤ p + k → zrn f b n k p < n → f (b (zrn f b n k p)) = false
  | 0, p, h1, h2 => by unfold zrn at h2; omega
  | k + 1, p, h1, h2 => by
    unfold zrn at h2 ⊢
    split at h2
    · rename_i c
      rw [if_pos c]; exact zrn_end k (p + 1) (by omega) h2
    · rename_i c
      rw [if_neg c]
      cases hf : f (b p)
      · rfl
      · exact absurd ⟨h2, hf⟩ c
theorem zrn_le : ∀ (k p : Nat), p ≤ n → zrn f b n k p ≤ n
  | 0, p, h => by unfold zrn; exact h
  | k + 1, p, h => by
    unfold zrn
    split
    · rename_i c
      exact zrn_le k (p + 1) (by omega)
    · exact h
theorem zru_ge : p ≤ zru f b n p := zrn_ge _ _
theorem zru_in (h1 : p ≤ q) (h2 : q < zru f b n p) : q < n ∧ f (b q) = true := zrn_in _ _ _ h1 h2
theorem zru_end (h : zru f b n p < n) : f (b (zru f b n p)) = false := zrn_end _ _ (by omega) h
theorem zru_le (h : p ≤ n) : zru f b n p ≤ n := zrn_le _ _ h
theorem zru_eq (h1 : p ≤ E) (h2 : ∀ j, p ≤ j → j < E → j < n ∧ f (b j) = true) (h3 : E < n → f (b E) = false) (h4 : E ≤ n) : zru f b n p = E := by
  rcases Nat.lt_trichotomy (zru f b n p) E with h | h | h
  · have a := h2 _ zru_ge h
    have c := zru_end a.1
    rw [a.2] at c; cases c
  · exact h
  · have a := zru_in h1 h
    have c := h3 a.1
    rw [a.2] at c; cases c
theorem zsp_t {c : Int} : zsp c = true ↔ c = 32 := by unfold zsp; exact decide_eq_true_iff
theorem zdg_t {c : Int} : zdg c = true ↔ 48 ≤ c ∧ c ≤ 57 := by unfold zdg; exact decide_eq_true_iff
theorem zlt_t {c : Int} : zlt c = true ↔ 97 ≤ c ∧ c ≤ 122 := by unfold zlt; exact decide_eq_true_iff
theorem zsp_f {c : Int} : zsp c = false ↔ c ≠ 32 := by unfold zsp; exact decide_eq_false_iff_not
theorem zdg_f {c : Int} : zdg c = false ↔ ¬ (48 ≤ c ∧ c ≤ 57) := by unfold zdg; exact decide_eq_false_iff_not
theorem zlt_f {c : Int} : zlt c = false ↔ ¬ (97 ≤ c ∧ c ≤ 122) := by unfold zlt; exact decide_eq_false_iff_not
theorem zte_le (h : p ≤ n) : zte b n p ≤ n := by
  unfold zte
  split
  · exact h
  · split
    · exact zru_le h
    · split
      · exact zru_le h
      · omega
theorem zte_ge : p ≤ zte b n p := by
  unfold zte
  split
  · exact Nat.le_refl p
  · split
    · exact zru_ge
    · split
      · exact zru_ge
      · omega
theorem zte_gt (h : p < n) : p < zte b n p := by
  unfold zte
  rw [if_neg (by omega)]
  have gg : ∀ g : Int → Bool, g (b p) = true → p < zru g b n p := fun g hg => by
    rcases Nat.lt_or_eq_of_le (zru_ge (f := g) (b := b) (n := n) (p := p)) with a | a
    · exact a
    · have c := zru_end (f := g) (b := b) (n := n) (p := p) (by omega)
      rw [← a, hg] at c; cases c
  split
  · rename_i c
    exact gg zdg (zdg_t.mpr c)
  · split
    · rename_i c
      exact gg zlt (zlt_t.mpr c)
    · omega
theorem znx_le (h : p ≤ n) : znx b n p ≤ n := zru_le (zte_le h)
theorem znx_gt (h : p < n) : p < znx b n p := Nat.lt_of_lt_of_le (zte_gt h) zru_ge
theorem znx_ge : p ≤ znx b n p := Nat.le_trans zte_ge zru_ge
theorem zvl_nn : ∀ k, (∀ j, p ≤ j → j < p + k → 48 ≤ b j) → 0 ≤ zvl b p k
  | 0, _ => Int.le_refl 0
  | k + 1, h => by
    have a := zvl_nn k (fun j j1 j2 => h j j1 (by omega))
    have c := h (p + k) (by omega) (by omega)
    unfold zvl
    omega
theorem zTx_f (h : zTx b n x M) (e2 : M' (x + 2) 2 = M (x + 2) 2) (e3 : M' (x + 3) = M (x + 3)) : zTx b n x M' := by
  unfold zTx
  rw [e2, e3]; exact h
theorem z_mv0 (hn : n ≤ 700) (hE : E ≤ n) (h3 : E < n → b E ≠ 32) : ∀ (k q : Nat) (M : xMe), zTx b n x M → M (x + 2) 3 = (q : Int) → q ≤ E → E < k + q → (∀ j, q ≤ j → j < E → b j = 32) → (∀ M', M' (x + 2) 3 = (E : Int) → (∀ c j, ¬ (c = x + 2 ∧ j = 3) → M' c j = M c j) → K M') → p_X9_moveOn_0 F (x + 2) Q K k M
  | 0, q, M, _, _, _, h, _, _ => by omega
  | k + 1, q, M, ht, hp, hq, hk, hs, hK => by
    unfold p_X9_moveOn_0
    rw [hp, ht.1, Int.toNat_natCast]
    refine ⟨fun h => ?_, fun h => ⟨⟨by omega, by omega⟩, fun h' => ?_, fun h' => ⟨⟨by omega, by omega⟩, fun M1 e1 => ?_⟩⟩⟩
    · have e : q = E := by omega
      exact hK M (by rw [hp, e]) (fun _ _ _ => rfl)
    · have a := ht.2 q (by omega)
      have e : q = E := by
        by_cases c : q = E
        · exact c
        · have d := hs q (Nat.le_refl _) (by omega)
          have h2 : M (x + 3) q ≠ 32 := h'
          omega
      exact hK M (by rw [hp, e]) (fun _ _ _ => rfl)
    · have a := ht.2 q (by omega)
      have h2 : M (x + 3) q = 32 := h'
      have d : q ≠ E := fun c => h3 (by omega) (by rw [← c]; omega)
      refine z_mv0 hn hE h3 k (q + 1) M1 (zTx_f ht (by rw [e1, xw_j (by decide)]) (by rw [e1, xw_B (by omega)])) (by rw [e1, xw_s]; omega) (by omega) (by omega) (fun j j1 j2 => hs j (by omega) j2) (fun M' g1 g2 => hK M' g1 (fun c j cj => ?_))
      rw [g2 c j cj, e1]
      by_cases hc : c = x + 2
      · rw [hc, xw_j (fun q => cj ⟨hc, q⟩)]
      · rw [xw_b hc]
theorem z_mv1 (hn : n ≤ 700) (hE : E ≤ n) (h3 : E < n → ¬ (48 ≤ b E ∧ b E ≤ 57)) (hd : ∀ j, p ≤ j → j < E → 48 ≤ b j ∧ b j ≤ 57) : ∀ (k q : Nat) (M : xMe), zTx b n x M → M (x + 2) 3 = (q : Int) → p ≤ q → q ≤ E → E < k + q → M (x + 2) 6 = min 100000 (zvl b p (q - p)) → (∀ M', M' (x + 2) 3 = (E : Int) → M' (x + 2) 6 = min 100000 (zvl b p (E - p)) → (∀ c j, ¬ (c = x + 2 ∧ (j = 3 ∨ j = 6)) → M' c j = M c j) → Q M') → p_X9_moveOn_110 F (x + 2) Q k M
  | 0, q, M, _, _, _, _, h, _, _ => by omega
  | k + 1, q, M, ht, hp, hpq, hq, hk, h6, hQ => by
    unfold p_X9_moveOn_110
    rw [hp, ht.1, Int.toNat_natCast]
    have nn : 0 ≤ zvl b p (q - p) := zvl_nn _ (fun j j1 j2 => (hd j j1 (by omega)).1)
    have fin : q = E → Q M := fun e => hQ M (by rw [hp, e]) (by rw [h6, e]) (fun _ _ _ => rfl)
    refine ⟨fun h => fin (by omega), fun h => ⟨⟨by omega, by omega⟩, fun h' => fin ?_, fun h1 => ⟨⟨by omega, by omega⟩, fun h' => fin ?_, fun h2 => ?_⟩⟩⟩
    · have a := ht.2 q (by omega)
      have h2 : M (x + 3) q < 48 := h'
      by_cases c : q = E
      · exact c
      · have d := hd q hpq (by omega)
        omega
    · have a := ht.2 q (by omega)
      have h2 : 57 < M (x + 3) q := h'
      by_cases c : q = E
      · exact c
      · have d := hd q hpq (by omega)
        omega
    · have a := ht.2 q (by omega)
      have h1' : 48 ≤ M (x + 3) q := h1
      have h2' : M (x + 3) q ≤ 57 := h2
      have d : q ≠ E := fun c => h3 (by omega) (by rw [← c]; omega)
      generalize hv : M (x + 2 + 1) q = v
      have hv' : M (x + 3) q = v := hv
      rw [h6]
      refine ⟨⟨by omega, by omega⟩, ⟨by omega, by omega⟩, ⟨by omega, by omega⟩, ⟨by omega, by omega⟩, fun M1 e1 => ?_⟩
      have e13 : M1 (x + 2) 3 = (q : Int) := by rw [e1, xw_j (by decide)]; exact hp
      rw [e13]
      refine ⟨⟨by omega, by omega⟩, fun M2 e2 => ?_⟩
      have ez : zvl b p (q + 1 - p) = 10 * zvl b p (q - p) + (b q - 48) := by
        rw [show q + 1 - p = (q - p) + 1 by omega]
        show 10 * zvl b p (q - p) + (b (p + (q - p)) - 48) = _
        rw [show p + (q - p) = q by omega]
      refine z_mv1 hn hE h3 hd k (q + 1) M2 (zTx_f ht (by rw [e2, xw_j (by decide), e1, xw_j (by decide)]) (by rw [e2, xw_B (by omega), e1, xw_B (by omega)])) (by rw [e2, xw_s]; omega) (by omega) (by omega) (by omega) ?_ (fun M' g1 g2 g3 => hQ M' g1 g2 (fun c j cj => ?_))
      · rw [e2, xw_j (by decide), e1, xw_s, ez]; omega
      · rw [g3 c j cj, e2, e1]
        by_cases hc : c = x + 2
        · rw [hc, xw_j (fun q => cj ⟨hc, Or.inl q⟩), xw_j (fun q => cj ⟨hc, Or.inr q⟩)]
        · rw [xw_b hc, xw_b hc]
theorem z_mv2 (hn : n ≤ 700) (hE : E ≤ n) (h3 : E < n → ¬ (97 ≤ b E ∧ b E ≤ 122)) : ∀ (k q : Nat) (M : xMe), zTx b n x M → M (x + 2) 3 = (q : Int) → q ≤ E → E < k + q → (∀ j, q ≤ j → j < E → 97 ≤ b j ∧ b j ≤ 122) → (∀ M', M' (x + 2) 3 = (E : Int) → (∀ c j, ¬ (c = x + 2 ∧ j = 3) → M' c j = M c j) → Q M') → p_X9_moveOn_216 F (x + 2) Q k M
  | 0, q, M, _, _, _, h, _, _ => by omega
  | k + 1, q, M, ht, hp, hq, hk, hs, hK => by
    unfold p_X9_moveOn_216
    rw [hp, ht.1, Int.toNat_natCast]
    have fin : q = E → Q M := fun e => hK M (by rw [hp, e]) (fun _ _ _ => rfl)
    refine ⟨fun h => fin (by omega), fun h => ⟨⟨by omega, by omega⟩, fun h' => fin ?_, fun h1 => ⟨⟨by omega, by omega⟩, fun h' => fin ?_, fun h2 => ⟨⟨by omega, by omega⟩, fun M1 e1 => ?_⟩⟩⟩⟩
    · have a := ht.2 q (by omega)
      have h2 : M (x + 3) q < 97 := h'
      by_cases c : q = E
      · exact c
      · have d := hs q (Nat.le_refl q) (by omega)
        omega
    · have a := ht.2 q (by omega)
      have h2 : 122 < M (x + 3) q := h'
      by_cases c : q = E
      · exact c
      · have d := hs q (Nat.le_refl q) (by omega)
        omega
    · have a := ht.2 q (by omega)
      have h1' : 97 ≤ M (x + 3) q := h1
      have h2' : M (x + 3) q ≤ 122 := h2
      have d : q ≠ E := fun c => h3 (by omega) (by rw [← c]; omega)
      refine z_mv2 hn hE h3 k (q + 1) M1 (zTx_f ht (by rw [e1, xw_j (by decide)]) (by rw [e1, xw_B (by omega)])) (by rw [e1, xw_s]; omega) (by omega) (by omega) (fun j j1 j2 => hs j (by omega) j2) (fun M' g1 g2 => hK M' g1 (fun c j cj => ?_))
      rw [g2 c j cj, e1]
      by_cases hc : c = x + 2
      · rw [hc, xw_j (fun q => cj ⟨hc, q⟩)]
      · rw [xw_b hc]
theorem z_mv (hn : n ≤ 700) (hF : 702 ≤ F) (hP : P ≤ n) (ht : zTx b n x M) (h3 : M (x + 2) 3 = (P : Int)) (hq : ∀ M', zTk b n (zru zsp b n P) x M' → (∀ c j, ¬ (c = x + 2 ∧ 3 ≤ j ∧ j ≤ 6) → M' c j = M c j) → Q M') : p_X9_moveOn F (x + 2) M Q := by
  unfold p_X9_moveOn
  have hE : zru zsp b n P ≤ n := zru_le hP
  refine z_mv0 hn hE (fun h => zsp_f.mp (zru_end h)) F P M ht h3 zru_ge (by omega) (fun j j1 j2 => zsp_t.mp (zru_in j1 j2).2) (fun M1 g1 g2 M2 e2 M3 e3 => ?_)
  generalize zru zsp b n P = E at *
  have ht3 : zTx b n x M3 := zTx_f ht (by rw [e3, xw_j (by decide), e2, xw_j (by decide), g2 _ _ (by omega)]) (by rw [e3, xw_B (by omega), e2, xw_B (by omega)]; funext j; exact g2 _ _ (by omega))
  have p3 : M3 (x + 2) 3 = (E : Int) := by rw [e3, xw_j (by decide), e2, xw_j (by decide)]; exact g1
  have p4 : M3 (x + 2) 4 = -1 := by rw [e3]; exact xw_s
  have p5 : M3 (x + 2) 5 = (E : Int) := by rw [e3, xw_j (by decide), e2, xw_s]; exact g1
  have fr : ∀ c j, ¬ (c = x + 2 ∧ 3 ≤ j ∧ j ≤ 6) → M3 c j = M c j := fun c j cj => by
    rw [e3, e2]
    by_cases hc : c = x + 2
    · subst hc; rw [xw_j (by omega), xw_j (by omega)]; exact g2 _ _ (by omega)
    · rw [xw_b hc, xw_b hc]; exact g2 _ _ (by omega)
  rw [p3, ht3.1, Int.toNat_natCast]
  refine ⟨fun h => ⟨⟨by omega, by omega⟩, fun M4 e4 => ?_⟩, fun h => ?_⟩
  · have a := ht3.2 E (by omega)
    have q4 : M4 (x + 2) 4 = b E := by
      rw [e4, xw_s]
      show M3 (x + 3) E % 2 ^ 8 = b E
      rw [a.2]; rfl
    have q3 : M4 (x + 2) 3 = (E : Int) := by rw [e4, xw_j (by decide)]; exact p3
    have q5 : M4 (x + 2) 5 = (E : Int) := by rw [e4, xw_j (by decide)]; exact p5
    have ht4 : zTx b n x M4 := zTx_f ht3 (by rw [e4, xw_j (by decide)]) (by rw [e4, xw_B (by omega)])
    have fr4 : ∀ c j, ¬ (c = x + 2 ∧ 3 ≤ j ∧ j ≤ 6) → M4 c j = M c j := fun c j cj => by
      rw [e4]
      by_cases hc : c = x + 2
      · subst hc; rw [xw_j (by omega)]; exact fr _ _ cj
      · rw [xw_b hc]; exact fr _ _ cj
    have sg : ¬ (48 ≤ b E ∧ b E ≤ 57) → ¬ (97 ≤ b E ∧ b E ≤ 122) → xR (M4 (x + 2) 3 + 1) ∧ ∀ M5 : xMe, M5 = xw M4 (x + 2) 3 (M4 (x + 2) 3 + 1) → Q M5 := fun c1 c2 => by
      rw [q3]
      refine ⟨⟨by omega, by omega⟩, fun M5 e5 => hq M5 ⟨?_, ?_, ?_, fun c => ?_⟩ (fun c j cj => ?_)⟩
      · rw [e5, xw_j (by decide)]; exact q5
      · rw [e5, xw_s]; unfold zte; rw [if_neg (by omega), if_neg c1, if_neg c2]; omega
      · rw [e5, xw_j (by decide), q4]; unfold zkd; rw [if_neg (by omega), if_neg c1, if_neg c2]
      · unfold zkd at c; rw [if_neg (by omega), if_neg c1, if_neg c2] at c; omega
      · rw [e5]
        by_cases hc : c = x + 2
        · subst hc; rw [xw_j (by omega)]; exact fr4 _ _ cj
        · rw [xw_b hc]; exact fr4 _ _ cj
    have wd : 97 ≤ b E ∧ b E ≤ 122 → ∀ M5 : xMe, M5 = xw M4 (x + 2) 4 256 → p_X9_moveOn_216 F (x + 2) Q F M5 := fun c2 M5 e5 => by
      have c1 : ¬ (48 ≤ b E ∧ b E ≤ 57) := by omega
      refine z_mv2 (E := zru zlt b n E) hn (zru_le hE) (fun h => zlt_f.mp (zru_end h)) F E M5 (zTx_f ht4 (by rw [e5, xw_j (by decide)]) (by rw [e5, xw_B (by omega)])) (by rw [e5, xw_j (by decide)]; exact q3) zru_ge (by have := zru_le (f := zlt) (b := b) hE; omega) (fun j j1 j2 => zlt_t.mp (zru_in j1 j2).2) (fun M6 g6 f6 => hq M6 ⟨?_, ?_, ?_, fun c => ?_⟩ (fun c j cj => ?_))
      · rw [f6 _ _ (by omega), e5, xw_j (by decide)]; exact q5
      · rw [g6]; unfold zte; rw [if_neg (by omega), if_neg c1, if_pos c2]
      · rw [f6 _ _ (by omega), e5, xw_s]; unfold zkd; rw [if_neg (by omega), if_neg c1, if_pos c2]
      · unfold zkd at c; rw [if_neg (by omega), if_neg c1, if_pos c2] at c; omega
      · rw [f6 _ _ (by omega), e5]
        by_cases hc : c = x + 2
        · subst hc; rw [xw_j (by omega)]; exact fr4 _ _ cj
        · rw [xw_b hc]; exact fr4 _ _ cj
    rw [q4]
    refine ⟨fun h1 => ⟨fun h2 => sg (by omega) (by omega), fun h2 => ⟨fun h3 => sg (by omega) (by omega), fun h3 => wd ⟨h2, h3⟩⟩⟩, fun h1 => ⟨fun h0 => ⟨fun h2 => sg (by omega) (by omega), fun h2 => ⟨fun h3 => sg (by omega) (by omega), fun h3 => wd ⟨h2, h3⟩⟩⟩, fun h0 M5 e5 M6 e6 => ?_⟩⟩
    have c1 : 48 ≤ b E ∧ b E ≤ 57 := ⟨h1, h0⟩
    refine z_mv1 (p := E) (E := zru zdg b n E) hn (zru_le hE) (fun h => zdg_f.mp (zru_end h)) (fun j j1 j2 => zdg_t.mp (zru_in j1 j2).2) F E M6 (zTx_f ht4 (by rw [e6, xw_j (by decide), e5, xw_j (by decide)]) (by rw [e6, xw_B (by omega), e5, xw_B (by omega)])) (by rw [e6, xw_j (by decide), e5, xw_j (by decide)]; exact q3) (Nat.le_refl E) zru_ge (by have := zru_le (f := zdg) (b := b) hE; omega) ?_ (fun M7 g7 k7 f7 => hq M7 ⟨?_, ?_, ?_, fun c => ?_⟩ (fun c j cj => ?_))
    · rw [e6, xw_s, Nat.sub_self]; rfl
    · rw [f7 _ _ (by omega), e6, xw_j (by decide), e5, xw_j (by decide)]; exact q5
    · rw [g7]; unfold zte; rw [if_neg (by omega), if_pos c1]
    · rw [f7 _ _ (by omega), e6, xw_j (by decide), e5, xw_s]; unfold zkd; rw [if_neg (by omega), if_pos c1]
    · rw [k7]; unfold znu zte; rw [if_neg (by omega), if_pos c1]
    · rw [f7 _ _ (by omega), e6, e5]
      by_cases hc : c = x + 2
      · subst hc; rw [xw_j (by omega), xw_j (by omega)]; exact fr4 _ _ cj
      · rw [xw_b hc, xw_b hc]; exact fr4 _ _ cj
  · have e : E = n := by omega
    refine hq M3 ⟨p5, ?_, ?_, fun c => ?_⟩ fr
    · rw [p3]; unfold zte; rw [if_pos (by omega)]
    · rw [p4]; unfold zkd; rw [if_pos (by omega)]
    · unfold zkd at c; rw [if_pos (by omega)] at c; omega
theorem z_isw0 (hn : n ≤ 700) (hs : s < 31) (hp : p ≤ n) (ht : zTx b n x M) (hk : zTk b n p x M) (hl : (zte b n p : Int) - p = xSl s) (h1 : (∀ i : Nat, (i : Int) < xSl s → b (p + i) = xSc s i) → R 1 M) (h0 : ¬ (∀ i : Nat, (i : Int) < xSl s → b (p + i) = xSc s i) → R 0 M) : ∀ (k i : Nat), xSl s < (k : Int) + i → (i : Int) ≤ xSl s → (∀ j : Nat, j < i → b (p + j) = xSc s j) → p_X9_isWord_30 F (x + 2) s R k (i : Int) M
  | 0, i, hk, hi, _ => by omega
  | k + 1, i, hk', _, hi => by
    have e := zte_le (b := b) hp
    unfold p_X9_isWord_30
    rw [hk.1, ht.1]
    refine ⟨fun h => h1 (fun j hj => hi j (by omega)), fun h => ⟨⟨by omega, by omega⟩, fun h' => by omega, fun h' => ⟨⟨by omega, by omega⟩, ⟨by omega, by omega⟩, ⟨by omega, by omega⟩, ?_⟩⟩⟩
    rw [show ((p : Int) + (i : Int)).toNat = p + i by omega, Int.toNat_natCast]
    have a := ht.2 (p + i) (by omega)
    have c := xSb hs h
    refine ⟨fun h2 => ⟨⟨by omega, by omega⟩, ?_⟩, fun h2 => h0 (fun q => h2 ?_)⟩
    · have h3 : M (x + 3) (p + i) = xSc s i := h2
      exact z_isw0 hn hs hp ht hk hl h1 h0 k (i + 1) (by omega) (by omega) (fun j hj => by
        by_cases q : j = i
        · rw [q]; omega
        · exact hi j (by omega))
    · show M (x + 3) (p + i) = xSc s i
      have := q i h
      omega
theorem z_isw (hn : n ≤ 700) (hF : 20 ≤ F) (hs : s < 31) (hs2 : 0 ≤ xSl s ∧ xSl s ≤ 10) (hp : p ≤ n) (ht : zTx b n x M) (hk : zTk b n p x M) (h1 : zIw b n s p → R 1 M) (h0 : ¬ zIw b n s p → R 0 M) : p_X9_isWord F (x + 2) s M R := by
  have e := zte_le (b := b) hp
  unfold p_X9_isWord
  rw [hk.2.2.1, hk.1, hk.2.1]
  refine ⟨fun h => h0 (fun q => h q.1), fun h => ⟨⟨by omega, by omega⟩, fun h2 => ?_, fun h2 => h0 (fun q => h2 q.2.1)⟩⟩
  exact z_isw0 hn hs hp ht hk h2 (fun q => h1 ⟨h, h2, q⟩) (fun q => h0 (fun r => q r.2.2)) F 0 (by omega) (by omega) (fun j hj => absurd hj (by omega))
/-! the model's scanner -/
theorem zMx_f (h : zMx b n m M) (e3 : M' m 3 = M m 3) (e1 : M' (m + 1) = M (m + 1)) : zMx b n m M' := by
  unfold zMx
  rw [e3, e1]; exact h
def zWd (s : Nat) : Prop := s < 31 ∧ 1 ≤ xSl s ∧ xSl s ≤ 10 ∧ ∀ i : Nat, (i : Int) < xSl s → 97 ≤ xSc s i ∧ xSc s i ≤ 122
theorem zIw_iff (hw : zWd s) (hp : p ≤ n) : zIw b n s p ↔ (∀ i : Nat, (i : Int) < xSl s → zBy b n (p + i) = xSc s i) ∧ ¬ (97 ≤ zBy b n (p + (xSl s).toNat) ∧ zBy b n (p + (xSl s).toNat) ≤ 122) := by
  obtain ⟨-, l1, l2, lc⟩ := hw
  have hz := zte_le (b := b) hp
  constructor
  · intro ⟨h1, h2, h3⟩
    refine ⟨fun i hi => ?_, fun h => ?_⟩
    · unfold zBy; rw [if_pos (by omega)]; exact h3 i hi
    · have e : p + (xSl s).toNat = zte b n p := by omega
      rw [e] at h
      unfold zBy at h
      by_cases c : zte b n p < n
      · rw [if_pos c] at h
        unfold zkd at h1
        split at h1
        · omega
        · split at h1
          · omega
          · split at h1
            · rename_i c1 c2 c3
              unfold zte at c h
              rw [if_neg c1, if_neg c2, if_pos c3] at c h
              exact zlt_f.mp (zru_end c) h
            · rename_i c1 c2 c3
              have := h3 0 (by omega)
              have := lc 0 (by omega)
              rw [Nat.add_zero] at *
              omega
      · rw [if_neg c] at h; omega
  · intro ⟨h1, h2⟩
    have hb : ∀ i : Nat, (i : Int) < xSl s → p + i < n ∧ b (p + i) = xSc s i := fun i hi => by
      have a := h1 i hi
      have c := lc i hi
      unfold zBy at a
      by_cases q : p + i < n
      · rw [if_pos q] at a; exact ⟨q, a⟩
      · rw [if_neg q] at a; omega
    have b0 := hb 0 (by omega)
    have c0 := lc 0 (by omega)
    rw [Nat.add_zero] at b0
    have k : zkd b n p = 256 := by
      unfold zkd
      rw [if_neg (by omega), if_neg (by omega), if_pos (by omega)]
    have et : zte b n p = p + (xSl s).toNat := by
      unfold zte
      rw [if_neg (by omega), if_neg (by omega), if_pos (by omega)]
      have hl := hb ((xSl s).toNat - 1) (by omega)
      refine zru_eq (by omega) (fun j j1 j2 => ?_) (fun h => zlt_f.mpr (fun q => h2 ?_)) (by omega)
      · have a := hb (j - p) (by omega)
        have c := lc (j - p) (by omega)
        rw [show p + (j - p) = j by omega] at a
        exact ⟨a.1, zlt_t.mpr (by omega)⟩
      · unfold zBy; rw [if_pos h]; exact q
    exact ⟨k, by omega, fun i hi => (hb i hi).2⟩
theorem zkd_by {c : Int} (hc : 0 ≤ c ∧ c < 48 ∨ 58 ≤ c ∧ c < 97) : zkd b n p = c ↔ zBy b n p = c := by
  unfold zkd zBy
  by_cases h0 : n ≤ p
  · rw [if_pos h0, if_neg (show ¬ p < n by omega)]
  · rw [if_neg h0, if_pos (show p < n by omega)]
    split
    · constructor <;> intro h <;> omega
    · split
      · constructor <;> intro h <;> omega
      · exact Iff.rfl
theorem zkd_sg {c : Int} (hc : 0 ≤ c ∧ c < 48 ∨ 58 ≤ c ∧ c < 97) (h : zkd b n p = c) : p < n ∧ zte b n p = p + 1 := by
  unfold zkd at h
  unfold zte
  split at h
  · omega
  · split at h
    · omega
    · split at h
      · omega
      · rename_i c1 c2 c3
        rw [if_neg c1, if_neg c2, if_neg c3]; exact ⟨by omega, rfl⟩
theorem zkd_dg : zkd b n p = 257 ∧ p < n ∧ (48 ≤ b p ∧ b p ≤ 57) ↔ 48 ≤ zBy b n p ∧ zBy b n p ≤ 57 := by
  unfold zkd zBy
  by_cases h0 : n ≤ p
  · rw [if_pos h0, if_neg (show ¬ p < n by omega)]; constructor <;> intro h <;> omega
  · rw [if_neg h0, if_pos (show p < n by omega)]
    split
    · constructor <;> intro h <;> omega
    · constructor <;> intro h <;> omega
theorem zkd_dg2 (hb : ∀ j, j < n → 0 ≤ b j ∧ b j ≤ 255) (h : zkd b n p = 257) : p < n ∧ (48 ≤ b p ∧ b p ≤ 57) := by
  unfold zkd at h
  split at h
  · omega
  · split at h
    · rename_i c1 c2; exact ⟨by omega, c2⟩
    · split at h
      · omega
      · have := hb p (by omega); omega
end ZT
