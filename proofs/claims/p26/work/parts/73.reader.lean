/-! LAYER 2, load: the states of the two readers -/
def zS : Type := Int × Int × Nat × yA × (Int × Int × Int)
def zmk (e w : Int) (p : Nat) (A : yA) (u : Int × Int × Int) : zS := (e, w, p, A, u)
def zS.e (s : zS) : Int := Prod.fst s
def zS.w (s : zS) : Int := Prod.fst (Prod.snd s)
def zS.p (s : zS) : Nat := Prod.fst (Prod.snd (Prod.snd s))
def zS.A (s : zS) : yA := Prod.fst (Prod.snd (Prod.snd (Prod.snd s)))
def zS.u (s : zS) : Int × Int × Int := Prod.snd (Prod.snd (Prod.snd (Prod.snd s)))
def zI (A : yA) : Prop := yN A ∧ (∀ g, 0 ≤ g → g < yS A 1 → 0 ≤ yS A (15 + 3 * g) ∧ yS A (15 + 3 * g) ≤ 99 ∧ 1 ≤ yS A (16 + 3 * g) ∧ yS A (16 + 3 * g) ≤ 999 ∧ 1 ≤ yS A (17 + 3 * g) ∧ yS A (17 + 3 * g) ≤ 20) ∧
  (∀ f, 0 ≤ f → f < yS A 2 → 1 ≤ yS A (33 + 8 * f) ∧ yS A (33 + 8 * f) ≤ 4 ∧ 0 ≤ yS A (34 + 8 * f) ∧ yS A (34 + 8 * f) ≤ 99 ∧ ∀ j, 0 ≤ j → j < yS A (33 + 8 * f) → 0 ≤ yS A (37 + 8 * f + j) ∧ yS A (37 + 8 * f + j) < yS A 1) ∧
  (∀ p, 0 ≤ p → p < yS A 3 → 0 ≤ yS A (81 + 9 * p) ∧ yS A (81 + 9 * p) < yS A 2 ∧ 0 ≤ yS A (82 + 9 * p) ∧ yS A (82 + 9 * p) ≤ 999 ∧ 1 ≤ yS A (83 + 9 * p) ∧ yS A (83 + 9 * p) ≤ 999 ∧ yS A (84 + 9 * p) = 0 ∧ yS A (85 + 9 * p) = 0 ∧ yS A (86 + 9 * p) = 0 ∧ yS A (87 + 9 * p) = -1 ∧ yS A (88 + 9 * p) = 0) ∧
  (0 ≤ yS A 9 ∧ yS A 9 ≤ 99 ∧ 0 ≤ yS A 10 ∧ yS A 10 ≤ 100 ∧ 1 ≤ yS A 11 ∧ yS A 11 ≤ 999) ∧
  (yS A 0 = 0 ∧ yS A 5 = 0 ∧ yS A 6 = 0 ∧ yS A 7 = 0 ∧ yS A 8 = 0) ∧ (∀ f, 0 ≤ f → f < 6 → yS A (35 + 8 * f) = 0 ∧ yS A (36 + 8 * f) = 0 ∧ (yS A 2 ≤ f → yS A (34 + 8 * f) = 0)) ∧ (∀ k, 561 ≤ k → yS A k = 0) ∧
  ((yC A).length ≤ 30 ∧ ∀ c ∈ yC A, 0 ≤ c.1 ∧ c.1 < yS A 2 ∧ 1 ≤ c.2.1 ∧ c.2.1 ≤ 9999 ∧ 1 ≤ c.2.2.1 ∧ c.2.2.1 ≤ 9999 ∧ c.2.2.2 = 0) ∧ yP A = [] ∧ yQ A = fun _ => []
def zR (w : Nat) (M : xMe) (A : yA) : Prop := ∀ (o : Nat) (i k : Int), o ≠ 11 → yL A o i k → M (w + o) i.toNat = yS A k
def zCd (x : Nat) (A : yA) (u : Int × Int × Int) (M : xMe) : Prop := zR (x + 4) M A ∧ yU (x + 29) M (yC A) ∧ (M (x + 34) 5 = 0 ∧ M (x + 34) 6 = 0) ∧ (M (x + 1) 6 = u.1 ∧ M (x + 1) 7 = u.2.1 ∧ M (x + 1) 8 = u.2.2) ∧ (u.2.2 ≠ 0 → M (x + 1) 5 = ((yK A).length : Int) ∧ ∀ (i : Nat) (v : Int), (yK A)[i]? = some v → M (x + 43) i = v)
def zC (b : Nat → Int) (n x : Nat) (B : xMe) (s : zS) (M : xMe) : Prop := (M (x + 1) 2 = s.e ∧ M (x + 1) 3 = s.w) ∧ zTx b n x M ∧ (0 ≤ M (x + 5) 3 ∧ M (x + 5) 3 ≤ 6) ∧ (0 ≤ M (x + 9) 4 ∧ M (x + 9) 4 ≤ 6) ∧ (∀ c, ¬ (x + 1 ≤ c ∧ c ≤ x + 43 ∧ c ≠ x + 3) → M c = B c) ∧ (s.e = 0 → s.p ≤ n ∧ zTk b n s.p x M ∧ zCd x s.A s.u M)
def zPr (b : Nat) (M : xMe) (K : List Int) : Prop := M b 13 = ((yEc K).length : Int) ∧ ∀ (j : Nat) (v : Int), (yEc K)[j]? = some v → M b (905 + j) = v
def zD (b : Nat) (M : xMe) (A : yA) : Prop := yD b M (yS A) ∧ yV b M (yC A) ∧ M b 14 = 0 ∧ (∀ s : Int, 0 ≤ s → s < 36 → M b (562 + 4 * s).toNat = 0) ∧ zPr b M (yK A)
def zM (b : Nat → Int) (n m : Nat) (B : xMe) (d : Int) (s : zS) (M : xMe) : Prop := (M m 5 = s.e ∧ M m 6 = s.w) ∧ zMx b n m M ∧ M m 15 = d ∧ (0 ≤ M m 16 ∧ M m 16 < 8) ∧ (0 ≤ M (m + 3) 2 ∧ M (m + 3) 2 ≤ 6) ∧ (∀ c, c ≠ m → c ≠ m + 3 → M c = B c) ∧ (∀ j, ¬ (4 ≤ j ∧ j ≤ 6) → ¬ (14 ≤ j ∧ j ≤ 16) → M m j = B m j) ∧ (s.e = 0 → (∃ P : Nat, P ≤ n ∧ M m 4 = (P : Int) ∧ zru zsp b n P = s.p) ∧ zD (m + 3) M s.A ∧ M m 16 = s.u.1 + 2 * s.u.2.1 + 4 * s.u.2.2)
def zE (s : zS) (k : Int) : zS := zmk k s.p s.p s.A s.u
def zG (b : Nat → Int) (n : Nat) (s : zS) : zS := zmk s.e s.w (znx b n s.p) s.A s.u
def zX (s : zS) (A : yA) (u : Int × Int × Int) : zS := zmk s.e s.w s.p A u
section ZP
variable {b : Nat → Int} {n x m F : Nat} {B M M' : xMe} {s s' : zS} {Q : xMe → Prop} {R : Int → xMe → Prop} {d k : Int}
/-! the class's -/
theorem zC_f (h : zC b n x B s M) (h1 : M' (x + 1) 2 = M (x + 1) 2 ∧ M' (x + 1) 3 = M (x + 1) 3) (h2 : M' (x + 2) 2 = M (x + 2) 2) (hg : 0 ≤ M' (x + 5) 3 ∧ M' (x + 5) 3 ≤ 6) (hf : 0 ≤ M' (x + 9) 4 ∧ M' (x + 9) 4 ≤ 6) (fr : ∀ c, ¬ (x + 1 ≤ c ∧ c ≤ x + 43 ∧ c ≠ x + 3) → M' c = M c) (e1 : s'.e = s.e) (e2 : s'.w = s.w) (hs : s.e = 0 → s'.p ≤ n ∧ zTk b n s'.p x M' ∧ zCd x s'.A s'.u M') : zC b n x B s' M' := by
  obtain ⟨⟨a1, a2⟩, a3, -, -, a6, a7⟩ := h
  exact ⟨⟨by rw [h1.1, e1]; exact a1, by rw [h1.2, e2]; exact a2⟩, zTx_f a3 h2 (fr _ (by omega)), hg, hf, fun c hc => (fr c hc).trans (a6 c hc), fun q => hs (e1 ▸ q)⟩
theorem zCd_f (h : zCd x s.A s.u M) (fr : ∀ c, c ≠ x + 2 → M' c = M c) : zCd x s.A s.u M' := by
  obtain ⟨h1, h2, h3, h4, h5⟩ := h
  refine ⟨fun o i k ho hl => ?_, ?_, ?_, ?_, ?_⟩
  · rw [fr _ (by omega)]; exact h1 o i k ho hl
  · unfold yU at *
    rw [fr (x + 29) (by omega), fr (x + 29 + 1) (by omega), fr (x + 29 + 2) (by omega), fr (x + 29 + 3) (by omega), fr (x + 29 + 4) (by omega)]; exact h2
  · rw [fr _ (by omega)]; exact h3
  · rw [fr _ (by omega)]; exact h4
  · rw [fr _ (by omega), fr (x + 43) (by omega)]; exact h5
theorem zC_mv2 (hn : n ≤ 700) (hF : 702 ≤ F) (h0 : s.e = 0) (h : zC b n x B s M) (hq : ∀ M', zC b n x B (zG b n s) M' → (∀ c, c ≠ x + 2 → M' c = M c) → Q M') : p_X9_moveOn F (x + 2) M Q := by
  obtain ⟨p1, p2, p3⟩ := h.2.2.2.2.2 h0
  refine z_mv hn hF (zte_le p1) h.2.1 p2.2.1 (fun M' k1 k2 => ?_)
  have fB : ∀ c, c ≠ x + 2 → M' c = M c := fun c hc => by funext j; exact k2 c j (by omega)
  refine hq M' ?_ fB
  refine zC_f h ⟨by rw [fB _ (by omega)], by rw [fB _ (by omega)]⟩ (k2 _ _ (by omega)) ?_ ?_ (fun c hc => fB c (by omega)) rfl rfl (fun _ => ⟨znx_le p1, k1, zCd_f p3 fB⟩)
  · rw [fB _ (by omega)]; exact h.2.2.1
  · rw [fB _ (by omega)]; exact h.2.2.2.1
theorem zC_mv (hn : n ≤ 700) (hF : 702 ≤ F) (h0 : s.e = 0) (h : zC b n x B s M) (hq : ∀ M', zC b n x B (zG b n s) M' → Q M') : p_X9_moveOn F (x + 2) M Q := zC_mv2 hn hF h0 h (fun M' h' _ => hq M' h')
theorem zC_fail (hk : k ≠ 0) (h0 : s.e = 0) (h : zC b n x B s M) (hq : ∀ M', zC b n x B (zE s k) M' → Q M') : p_X8_fail (x + 1) k M Q := by
  unfold p_X8_fail
  have a := h.1.1
  rw [h0] at a
  have p5 : M (x + 1 + 1) 5 = (s.p : Int) := (h.2.2.2.2.2 h0).2.1.1
  refine ⟨fun q => absurd a q, fun _ M1 e1 M2 e2 => hq M2 ?_⟩
  have fB : ∀ c, c ≠ x + 1 → M2 c = M c := fun c hc => by rw [e2, xw_B hc, e1, xw_B hc]
  refine ⟨⟨?_, ?_⟩, zTx_f h.2.1 (by rw [fB _ (by omega)]) (fB _ (by omega)), by rw [fB _ (by omega)]; exact h.2.2.1, by rw [fB _ (by omega)]; exact h.2.2.2.1, fun c hc => (fB c (by omega)).trans (h.2.2.2.2.1 c hc), fun q => absurd q hk⟩
  · rw [e2, xw_j (by decide), e1]; exact xw_s
  · rw [e2, xw_s, e1, xw_b (by omega)]; exact p5
theorem zC_fail2 (h0 : s.e ≠ 0) (h : zC b n x B s M) (hq : Q M) : p_X8_fail (x + 1) k M Q := by
  unfold p_X8_fail
  have a := h.1.1
  exact ⟨fun _ => hq, fun q => absurd (a.symm.trans q) h0⟩
theorem zC_isw {i : Nat} (hn : n ≤ 700) (hF : 702 ≤ F) (hw : zWd i) (h0 : s.e = 0) (h : zC b n x B s M) (h1 : zIw b n i s.p → R 1 M) (h2 : ¬ zIw b n i s.p → R 0 M) : p_X9_isWord F (x + 2) i M R := by
  obtain ⟨p1, p2, p3⟩ := h.2.2.2.2.2 h0
  exact z_isw hn (by omega) hw.1 ⟨by have := hw.2.1; omega, hw.2.2.1⟩ p1 h.2.1 p2 h1 h2
theorem zC_stands {lo hi : Int} (hlo : lo ≤ 1) (hhi : hi ≤ 9999) (h : zC b n x B s M) (h1 : s.e ≠ 0 → R 0 M) (h2 : s.e = 0 → zkd b n s.p ≠ 257 → ∀ M', zC b n x B (zE s (-2)) M' → R 0 M') (h3 : s.e = 0 → zkd b n s.p = 257 → ¬ (lo ≤ znu b n s.p ∧ znu b n s.p ≤ hi) → ∀ M', zC b n x B (zE s (-3)) M' → R 0 M') (h4 : s.e = 0 → zkd b n s.p = 257 → (lo ≤ znu b n s.p ∧ znu b n s.p ≤ hi) → M (x + 2) 6 = znu b n s.p → R 1 M) : p_X8_numberStands (x + 1) lo hi M R := by
  unfold p_X8_numberStands
  by_cases h0 : s.e = 0
  · obtain ⟨p1, p2, p3⟩ := h.2.2.2.2.2 h0
    have e4 : M (x + 1 + 1) 4 = zkd b n s.p := p2.2.2.1
    have bad : ∀ (k : Int) (M' : xMe), k ≠ 0 → zC b n x B (zE s k) M' → R 0 M' → (M' (x + 1) 2 ≠ 0 → R 0 M') ∧ (M' (x + 1) 2 = 0 → R 1 M') := fun k M' hk hc hr => ⟨fun _ => hr, fun q => absurd (hc.1.1.symm.trans q) hk⟩
    rw [e4]
    refine ⟨fun hk => ?_, fun hk => ?_⟩
    · have e6 : M (x + 1 + 1) 6 = min 100000 (znu b n s.p) := p2.2.2.2 hk
      have e6' : M (x + 2) 6 = min 100000 (znu b n s.p) := e6
      rw [e6]
      refine ⟨fun q => zC_fail (by decide) h0 h (fun M' c => bad _ M' (by decide) c (h3 h0 hk (by omega) M' c)), fun q => ⟨fun q2 => ⟨fun r => absurd (h.1.1.trans h0) r, fun _ => h4 h0 hk (by omega) (by omega)⟩, fun q2 => zC_fail (by decide) h0 h (fun M' c => bad _ M' (by decide) c (h3 h0 hk (by omega) M' c))⟩⟩
    · exact zC_fail (by decide) h0 h (fun M' c => bad _ M' (by decide) c (h2 h0 hk M' c))
  · have g : (M (x + 1) 2 ≠ 0 → R 0 M) ∧ (M (x + 1) 2 = 0 → R 1 M) := ⟨fun _ => h1 h0, fun q => absurd (h.1.1.symm.trans q) h0⟩
    exact ⟨fun _ => ⟨fun _ => zC_fail2 h0 h g, fun _ => ⟨fun _ => g, fun _ => zC_fail2 h0 h g⟩⟩, fun _ => zC_fail2 h0 h g⟩
theorem zC_num {lo hi : Int} (hn : n ≤ 700) (hF : 702 ≤ F) (hlo : lo ≤ 1) (hhi : hi ≤ 9999) (h : zC b n x B s M) (h1 : s.e ≠ 0 → R (-1) M) (h2 : s.e = 0 → zkd b n s.p ≠ 257 → ∀ M', zC b n x B (zE s (-2)) M' → R (-1) M') (h3 : s.e = 0 → zkd b n s.p = 257 → ¬ (lo ≤ znu b n s.p ∧ znu b n s.p ≤ hi) → ∀ M', zC b n x B (zE s (-3)) M' → R (-1) M') (h4 : s.e = 0 → zkd b n s.p = 257 → (lo ≤ znu b n s.p ∧ znu b n s.p ≤ hi) → ∀ M', zC b n x B (zG b n s) M' → R (znu b n s.p) M') : p_X8_takeNumber F (x + 1) lo hi M R := by
  unfold p_X8_takeNumber
  refine zC_stands hlo hhi h (fun a => ⟨fun q => absurd rfl q, fun _ => h1 a⟩) (fun a c M' hM => ⟨fun q => absurd rfl q, fun _ => h2 a c M' hM⟩) (fun a c e M' hM => ⟨fun q => absurd rfl q, fun _ => h3 a c e M' hM⟩) (fun a c e g => ⟨fun _ z ez => ?_, fun q => absurd q (by decide)⟩)
  have ez' : z = znu b n s.p := ez.trans g
  rw [ez']
  exact zC_mv hn hF a h (fun M' hM => h4 a c e M' hM)
theorem zC_sign {c : Int} (hn : n ≤ 700) (hF : 702 ≤ F) (h : zC b n x B s M) (h1 : s.e ≠ 0 → Q M) (h2 : s.e = 0 → zkd b n s.p = c → ∀ M', zC b n x B (zG b n s) M' → Q M') (h3 : s.e = 0 → zkd b n s.p ≠ c → ∀ M', zC b n x B (zE s (-2)) M' → Q M') : p_X8_takeSign F (x + 1) c M Q := by
  unfold p_X8_takeSign
  by_cases h0 : s.e = 0
  · have e4 : M (x + 1 + 1) 4 = zkd b n s.p := (h.2.2.2.2.2 h0).2.1.2.2.1
    rw [e4]
    exact ⟨fun q => ⟨fun r => absurd (h.1.1.trans h0) r, fun _ => zC_mv hn hF h0 h (fun M' hM => h2 h0 q M' hM)⟩, fun q => zC_fail (by decide) h0 h (fun M' hM => ⟨fun _ => h3 h0 q M' hM, fun r => absurd (hM.1.1.symm.trans r) (show ((-2 : Int)) ≠ 0 by decide)⟩)⟩
  · have g : (M (x + 1) 2 ≠ 0 → Q M) ∧ (M (x + 1) 2 = 0 → p_X9_moveOn F (x + 1 + 1) M (fun M28 => Q M28)) := ⟨fun _ => h1 h0, fun q => absurd (h.1.1.symm.trans q) h0⟩
    exact ⟨fun _ => g, fun _ => zC_fail2 h0 h g⟩
/-! the model's -/
theorem zM_f (h : zM b n m B d s M) (k5 : M' m 5 = s'.e) (k6 : M' m 6 = s'.w) (k16 : 0 ≤ M' m 16 ∧ M' m 16 < 8) (k2 : 0 ≤ M' (m + 3) 2 ∧ M' (m + 3) 2 ≤ 6) (fr : ∀ c, c ≠ m → c ≠ m + 3 → M' c = M c) (fm : ∀ j, ¬ (4 ≤ j ∧ j ≤ 6) → ¬ (14 ≤ j ∧ j ≤ 16) → M' m j = M m j) (hs : s'.e = 0 → (∃ P : Nat, P ≤ n ∧ M' m 4 = (P : Int) ∧ zru zsp b n P = s'.p) ∧ zD (m + 3) M' s'.A ∧ M' m 16 = s'.u.1 + 2 * s'.u.2.1 + 4 * s'.u.2.2) (d' : Int) (k15 : M' m 15 = d') : zM b n m B d' s' M' := by
  obtain ⟨a1, a2, a3, a4, a5, a6, a7, a8⟩ := h
  exact ⟨⟨k5, k6⟩, zMx_f a2 (fm _ (by omega) (by omega)) (fr _ (by omega) (by omega)), k15, k16, k2, fun c c1 c2 => (fr c c1 c2).trans (a6 c c1 c2), fun j j1 j2 => (fm j j1 j2).trans (a7 j j1 j2), hs⟩
theorem zD_r {c : Nat} {A : yA} (h : zD c M A) (e : M' c = M c) : zD c M' A := by
  unfold zD yD yV zPr at *
  rw [e]; exact h
/-- a move of the position, or a report -/
theorem zM_m {m : Nat} (h : zM b n m B d s M) (h0 : s.e = 0) (fr : ∀ c j, ¬ (c = m ∧ (4 ≤ j ∧ j ≤ 6 ∨ j = 14)) → M' c j = M c j) (k5 : M' m 5 = s'.e) (k6 : M' m 6 = s'.w) (eA : s'.A = s.A) (eu : s'.u = s.u) (hs : s'.e = 0 → ∃ P : Nat, P ≤ n ∧ M' m 4 = (P : Int) ∧ zru zsp b n P = s'.p) : zM b n m B d s' M' := by
  have fB : ∀ c, c ≠ m → M' c = M c := fun c hc => by funext j; exact fr c j (by omega)
  refine zM_f h k5 k6 (by rw [fr _ _ (by omega)]; exact h.2.2.2.1) (by rw [fB _ (by omega)]; exact h.2.2.2.2.1) (fun c hc _ => fB c hc) (fun j j1 j2 => fr _ _ (by omega)) (fun q => ⟨hs q, ?_, ?_⟩) d (by rw [fr _ _ (by omega)]; exact h.2.2.1)
  · rw [eA]; exact zD_r (h.2.2.2.2.2.2.2 h0).2.1 (fB _ (by omega))
  · rw [eu, fr _ _ (by omega)]; exact (h.2.2.2.2.2.2.2 h0).2.2
theorem zM_nest {μ' : Int} (hh : zM b n m B d s M) (ee : M' = xw M m 15 μ') : zM b n m B μ' s M' := by
  have fB : ∀ c, c ≠ m → M' c = M c := fun c hc => by rw [ee, xw_B hc]
  have fj : ∀ j, j ≠ 15 → M' m j = M m j := fun j hj => by rw [ee, xw_j hj]
  exact zM_f hh (by rw [fj _ (by decide)]; exact hh.1.1) (by rw [fj _ (by decide)]; exact hh.1.2) (by rw [fj _ (by decide)]; exact hh.2.2.2.1) (by rw [fB _ (by omega)]; exact hh.2.2.2.2.1) (fun c hc _ => fB c hc) (fun j j1 j2 => fj j (by omega)) (fun q => ⟨by rw [fj _ (by decide)]; exact (hh.2.2.2.2.2.2.2 q).1, zD_r (hh.2.2.2.2.2.2.2 q).2.1 (fB _ (by omega)), by rw [fj _ (by decide)]; exact (hh.2.2.2.2.2.2.2 q).2.2⟩) μ' (by rw [ee]; exact xw_s)
theorem zM_pos {v : Int} (h0 : s.e ≠ 0) (hh : zM b n m B d s M) (ee : M' = xw M m 4 v) : zM b n m B d s M' := by
  have fB : ∀ c, c ≠ m → M' c = M c := fun c hc => by rw [ee, xw_B hc]
  have fj : ∀ j, j ≠ 4 → M' m j = M m j := fun j hj => by rw [ee, xw_j hj]
  exact zM_f hh (by rw [fj _ (by decide)]; exact hh.1.1) (by rw [fj _ (by decide)]; exact hh.1.2) (by rw [fj _ (by decide)]; exact hh.2.2.2.1) (by rw [fB _ (by omega)]; exact hh.2.2.2.2.1) (fun c hc _ => fB c hc) (fun j j1 j2 => fj j (by omega)) (fun q => absurd q h0) d (by rw [fj _ (by decide)]; exact hh.2.2.1)
end ZP
