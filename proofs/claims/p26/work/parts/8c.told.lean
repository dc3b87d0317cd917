/-! WHAT THE ROAD TELLS -/
/-- every waiting packet stands in its queue; a queue is ordered by when a packet joined, then by index -/
def yQx (A : yA) : Prop := (∀ p, 0 ≤ p → p < yS A 3 → yS A (84 + 9 * p) = 1 → p ∈ yQ A (ySl A p)) ∧ ∀ s, (yQ A s).Pairwise (fun p q => yS A (88 + 9 * p) < yS A (88 + 9 * q) ∨ (yS A (88 + 9 * p) = yS A (88 + 9 * q) ∧ p < q))
theorem ySp2_0 : ∀ {n : Nat}, ySp2 (fun _ => 0) n = 0
  | 0 => rfl
  | n + 1 => by unfold ySp2; rw [ySp2_0]; rfl
theorem ySp2_mem : ∀ (l : List Int) (n : Nat), l.Nodup → (∀ p ∈ l, 0 ≤ p ∧ p < (n : Int)) → ySp2 (fun p => if p ∈ l then 1 else 0) n = (l.length : Int)
  | [], n, _, _ => by
    rw [ySp2_eq (h := fun _ => 0) (fun p _ _ => by simp), ySp2_0]; rfl
  | q :: l, n, hn, hb => by
    have hq := hb q List.mem_cons_self
    rw [List.nodup_cons] at hn
    rw [ySp2_up (h := fun p => if p ∈ l then 1 else 0) (p := q) hq.1 hq.2 (fun r hr => by simp [hr]), ySp2_mem l n hn.2 (fun p hp => hb p (List.mem_cons_of_mem _ hp))]
    simp [hn.1]
abbrev yMb (A : yA) (g f p : Int) : Prop := yS A (84 + 9 * p) = 1 ∧ yS A (81 + 9 * p) = f ∧ yGt A p = g
theorem yMb_i {A : yA} (hI : yI A) (hx : yQx A) {g f p : Int} (f0 : 0 ≤ f) (f1 : f < yS A 2) (p0 : 0 ≤ p) (p1 : p < yS A 3) : p ∈ yQ A (6 * g + f) ↔ yMb A g f p := by
  obtain ⟨h1, h2, h3, h4, -⟩ := hI
  obtain ⟨n1, n2, n3, n4, n5, n6⟩ := id h1.1
  constructor
  · intro h
    obtain ⟨-, -, s1, e, -⟩ := h4.2 _ p h
    have q := yGt_ok h1 h3 p0 p1 (by omega)
    unfold ySl at e
    exact ⟨s1, by omega, by omega⟩
  · rintro ⟨a, rfl, rfl⟩
    exact hx.1 p p0 p1 a
theorem yQlen {A : yA} (hI : yI A) (hx : yQx A) {g f : Int} (f0 : 0 ≤ f) (f1 : f < yS A 2) : ySp2 (fun p => if yMb A g f p then 1 else 0) (yS A 3).toNat = ((yQ A (6 * g + f)).length : Int) := by
  have n3 := hI.1.1.2.2.2.2.1
  rw [← ySp2_mem (yQ A (6 * g + f)) (yS A 3).toNat (hI.2.2.2.1.1.1 _).1 (fun p hp => by have := (hI.2.2.2.1.2 _ p hp); omega)]
  refine ySp2_eq (fun p a b => ?_)
  have e := yMb_i hI hx (g := g) f0 f1 a (by omega : p < yS A 3)
  by_cases q : yMb A g f p
  · rw [if_pos q, if_pos (e.mpr q)]
  · rw [if_neg q, if_neg (fun z => q (e.mp z))]
section RQ
variable {P S : Nat → Prop} {σ : Nat → Int} {RA : Int → Nat} {cl : List Nat} {t : xTh} {M : xMe} {r : Nat} {A : yA} {F n : Nat} {Q : Int → xTh → xMe → Prop} {f g p : Int}
theorem rRi_pk (h : rRi P S σ RA cl t M r A) : ∃ b, xr t r 4 = some b ∧ xk t b = 17 ∧ (xn t b : Int) = yS A 3 ∧ ∀ p, 0 ≤ p → p < yS A 3 → xr t b p.toNat = some (RA (81 + 9 * p)) ∧ xk t (RA (81 + 9 * p)) = 14 ∧ xn t (RA (81 + 9 * p)) = 8 := by
  obtain ⟨⟨b, b1, -, b2, b3, b4⟩, h2⟩ := h.2.2.2.2.2.1
  refine ⟨b, b1, b2, b3, fun p p0 p1 => ?_⟩
  obtain ⟨-, -, q3, q4, -⟩ := h2 p p0 p1
  dsimp only at q4
  exact ⟨b4 p p0 p1, q3, by omega⟩
theorem rRi_pv (h : rRi P S σ RA cl t M r A) (p0 : 0 ≤ p) (p1 : p < yS A 3) (j : Int) (j0 : 0 ≤ j := by decide) (j1 : j < 8 := by decide) : M (RA (81 + 9 * p)) j.toNat = yS A (81 + 9 * p + j) := (h.2.2.2.2.2.1.2 p p0 p1).2.2.2.2 j j0 j1
theorem rRi_p0 (h : rRi P S σ RA cl t M r A) (p0 : 0 ≤ p) (p1 : p < yS A 3) : M (RA (81 + 9 * p)) 0 = yS A (81 + 9 * p) := (rRi_pv h p0 p1 0).trans (by rw [Int.add_zero])
theorem rRi_p1 (h : rRi P S σ RA cl t M r A) (p0 : 0 ≤ p) (p1 : p < yS A 3) : M (RA (81 + 9 * p)) 1 = yS A (82 + 9 * p) := (rRi_pv h p0 p1 1).trans (congrArg _ (by omega))
theorem rRi_p2 (h : rRi P S σ RA cl t M r A) (p0 : 0 ≤ p) (p1 : p < yS A 3) : M (RA (81 + 9 * p)) 2 = yS A (83 + 9 * p) := (rRi_pv h p0 p1 2).trans (congrArg _ (by omega))
theorem rRi_p3 (h : rRi P S σ RA cl t M r A) (p0 : 0 ≤ p) (p1 : p < yS A 3) : M (RA (81 + 9 * p)) 3 = yS A (84 + 9 * p) := (rRi_pv h p0 p1 3).trans (congrArg _ (by omega))
theorem rRi_p4 (h : rRi P S σ RA cl t M r A) (p0 : 0 ≤ p) (p1 : p < yS A 3) : M (RA (81 + 9 * p)) 4 = yS A (85 + 9 * p) := (rRi_pv h p0 p1 4).trans (congrArg _ (by omega))
theorem rRi_p5 (h : rRi P S σ RA cl t M r A) (p0 : 0 ≤ p) (p1 : p < yS A 3) : M (RA (81 + 9 * p)) 5 = yS A (86 + 9 * p) := (rRi_pv h p0 p1 5).trans (congrArg _ (by omega))
theorem rRi_p6 (h : rRi P S σ RA cl t M r A) (p0 : 0 ≤ p) (p1 : p < yS A 3) : M (RA (81 + 9 * p)) 6 = yS A (87 + 9 * p) := (rRi_pv h p0 p1 6).trans (congrArg _ (by omega))
theorem rRi_p7 (h : rRi P S σ RA cl t M r A) (p0 : 0 ≤ p) (p1 : p < yS A 3) : M (RA (81 + 9 * p)) 7 = yS A (88 + 9 * p) := (rRi_pv h p0 p1 7).trans (congrArg _ (by omega))
theorem rRi_fl (h : rRi P S σ RA cl t M r A) : ∃ b, xr t r 2 = some b ∧ xk t b = 17 ∧ (xn t b : Int) = yS A 2 ∧ ∀ f, 0 ≤ f → f < yS A 2 → xr t b f.toNat = some (RA (34 + 8 * f)) ∧ xk t (RA (34 + 8 * f)) = 14 ∧ xn t (RA (34 + 8 * f)) = 3 ∧ M (RA (34 + 8 * f)) 0 = yS A (34 + 8 * f) ∧ M (RA (34 + 8 * f)) 1 = yS A (35 + 8 * f) ∧ M (RA (34 + 8 * f)) 2 = yS A (36 + 8 * f) := by
  obtain ⟨⟨b, b1, -, b2, b3, b4⟩, h2⟩ := h.2.2.2.1
  refine ⟨b, b1, b2, b3, fun p p0 p1 => ?_⟩
  obtain ⟨-, -, q3, q4, q5⟩ := h2 p p0 p1
  dsimp only at q4 q5
  exact ⟨b4 p p0 p1, q3, by omega, (q5 0 (by decide) (by decide)).trans (congrArg _ (by omega)), (q5 1 (by decide) (by decide)).trans (congrArg _ (by omega)), (q5 2 (by decide) (by decide)).trans (congrArg _ (by omega))⟩
theorem rRi_ga (h : rRi P S σ RA cl t M r A) : ∃ b, xr t r 1 = some b ∧ xk t b = 17 ∧ (xn t b : Int) = yS A 1 ∧ ∀ f, 0 ≤ f → f < yS A 1 → xr t b f.toNat = some (RA (15 + 3 * f)) ∧ xk t (RA (15 + 3 * f)) = 14 ∧ xn t (RA (15 + 3 * f)) = 3 ∧ M (RA (15 + 3 * f)) 0 = yS A (15 + 3 * f) ∧ M (RA (15 + 3 * f)) 1 = yS A (16 + 3 * f) ∧ M (RA (15 + 3 * f)) 2 = yS A (17 + 3 * f) := by
  obtain ⟨⟨b, b1, -, b2, b3, b4⟩, h2⟩ := h.2.2.1
  refine ⟨b, b1, b2, b3, fun p p0 p1 => ?_⟩
  obtain ⟨-, -, q3, q4, q5⟩ := h2 p p0 p1
  dsimp only at q4 q5
  exact ⟨b4 p p0 p1, q3, by omega, (q5 0 (by decide) (by decide)).trans (congrArg _ (by omega)), (q5 1 (by decide) (by decide)).trans (congrArg _ (by omega)), (q5 2 (by decide) (by decide)).trans (congrArg _ (by omega))⟩
theorem rRi_ro (h : rRi P S σ RA cl t M r A) : ∃ b, xr t r 3 = some b ∧ xk t b = 17 ∧ (xn t b : Int) = yS A 2 ∧ ∀ f, 0 ≤ f → f < yS A 2 → xr t b f.toNat = some (RA (37 + 8 * f)) ∧ xk t (RA (37 + 8 * f)) = 14 ∧ (xn t (RA (37 + 8 * f)) : Int) = yS A (33 + 8 * f) ∧ ∀ j, 0 ≤ j → j < yS A (33 + 8 * f) → M (RA (37 + 8 * f)) j.toNat = yS A (37 + 8 * f + j) := by
  obtain ⟨⟨b, b1, -, b2, b3, b4⟩, h2⟩ := h.2.2.2.2.1
  refine ⟨b, b1, b2, b3, fun p p0 p1 => ?_⟩
  obtain ⟨-, -, q3, q4, q5⟩ := h2 p p0 p1
  exact ⟨b4 p p0 p1, q3, q4, q5⟩
theorem rRi_tk (h : rRi P S σ RA cl t M r A) : ∃ b, xr t r 7 = some b ∧ xk t b = 17 ∧ xn t b = 6 ∧ ∀ g, 0 ≤ g → g < 6 → xr t b g.toNat = some (RA (561 + 24 * g)) ∧ xk t (RA (561 + 24 * g)) = 14 ∧ xn t (RA (561 + 24 * g)) = 6 ∧ (g < yS A 1 → ∀ f, 0 ≤ f → f < yS A 2 → M (RA (561 + 24 * g)) f.toNat = yS A (561 + 4 * (6 * g + f))) := by
  obtain ⟨⟨b, b1, -, b2, b3, b4⟩, h2⟩ := h.2.2.2.2.2.2.1
  refine ⟨b, b1, b2, by omega, fun p p0 p1 => ?_⟩
  obtain ⟨-, -, q3, q4, q5⟩ := h2 p p0 p1
  exact ⟨b4 p p0 p1, q3, q4, q5⟩
theorem rRi_co (h : rRi P S σ RA cl t M r A) : ∃ b, xr t r 5 = some b ∧ xk t b = 17 ∧ xn t b = (yC A).length ∧ ∀ (i : Nat) (v : yCo), (yC A)[i]? = some v → ∃ c, xr t b i = some c ∧ cl[i]? = some c ∧ xk t c = 14 ∧ xn t c = 4 ∧ M c 0 = v.1 ∧ M c 1 = v.2.1 ∧ M c 2 = v.2.2.1 ∧ M c 3 = v.2.2.2 := by
  obtain ⟨⟨b, b1, -, b2, b3, b4⟩, h2, -, h4⟩ := h.2.2.2.2.2.2.2.1
  refine ⟨b, b1, b2, by omega, fun i v hv => ?_⟩
  have hi := (List.getElem?_eq_some_iff.mp hv).1
  have hc : cl[i]? = some cl[i] := List.getElem?_eq_getElem (by omega)
  obtain ⟨-, -, q3, q4, q5⟩ := h4 i _ v hc hv
  exact ⟨cl[i], by rw [b4 i (by omega)]; exact hc, hc, q3, q4, q5⟩
theorem s_gateOf (h : rRi P S σ RA cl t M r A) (p0 : 0 ≤ p) (p1 : p < yS A 3) (f0 : 0 ≤ yS A (81 + 9 * p)) (f1 : yS A (81 + 9 * p) < yS A 2) (s0 : 0 ≤ yS A (85 + 9 * p)) (s1 : yS A (85 + 9 * p) < yS A (33 + 8 * yS A (81 + 9 * p))) (hq : Q (yGt A p) t M) : p_X14_gateOf F n t r (RA (81 + 9 * p)) M Q := by
  obtain ⟨b, b1, b2, b3, b4⟩ := rRi_ro h
  obtain ⟨b9, -, -, -, c4⟩ := rRi_pk h
  obtain ⟨-, c6, c5⟩ := c4 p p0 p1
  obtain ⟨d1, d2, d3, d4⟩ := b4 _ f0 f1
  unfold p_X14_gateOf
  rw [c5, rRi_p0 h p0 p1, rRi_p4 h p0 p1]
  refine ⟨b, b1, b2, ⟨by omega, by omega⟩, ⟨f0, by omega⟩, _, d1, d2, ⟨by omega, by omega⟩, ⟨s0, by omega⟩, ?_⟩
  rw [d4 _ s0 s1]
  exact hq
theorem s_queue_16 (h : rRi P S σ RA cl t M r A) (hI : yI A) {b : Nat} (b4 : ∀ p, 0 ≤ p → p < yS A 3 → xr t b p.toNat = some (RA (81 + 9 * p)) ∧ xk t (RA (81 + 9 * p)) = 14 ∧ xn t (RA (81 + 9 * p)) = 8) (b3 : (xn t b : Int) = yS A 3) (hq : Q (ySp2 (fun p => if yMb A g f p then 1 else 0) (yS A 3).toNat) t M) :
    ∀ (d k i : Nat) (x : Int), (i : Int) + d = yS A 3 → d < k → x = ySp2 (fun p => if yMb A g f p then 1 else 0) i → 0 ≤ x → x ≤ i → p_X14_queue_16 F Q k n r g f x b (yS A 3) (i : Int) t M := by
  obtain ⟨n1, n2, n3, n4, n5, n6⟩ := id hI.1.1
  intro d
  induction d with
  | zero =>
    intro k i x hi hk hx h0 h1
    obtain ⟨k, rfl⟩ : ∃ k', k = k' + 1 := ⟨k - 1, by omega⟩
    unfold p_X14_queue_16
    refine ⟨fun _ => ?_, fun q => absurd q (by omega)⟩
    rw [show (yS A 3).toNat = i by omega] at hq
    rw [hx]; exact hq
  | succ d ih =>
    intro k i x hi hk hx h0 h1
    obtain ⟨k, rfl⟩ : ∃ k', k = k' + 1 := ⟨k - 1, by omega⟩
    have p0 : (0 : Int) ≤ i := by omega
    have p1 : (i : Int) < yS A 3 := by omega
    obtain ⟨c1, c2, c3⟩ := b4 _ p0 p1
    have no : ¬ yMb A g f i → xR ((i : Int) + 1) ∧ p_X14_queue_16 F Q k n r g f x b (yS A 3) ((i : Int) + 1) t M := fun q => ⟨⟨by omega, by omega⟩, ih k (i + 1) x (by omega) (by omega) (by rw [ySp2, if_neg q, ← hx, Int.add_zero]) h0 (by omega)⟩
    unfold p_X14_queue_16
    refine ⟨fun q => absurd q (by omega), fun _ => ⟨⟨by omega, by omega⟩, _, c1, c2, ⟨by omega, by omega⟩, ?_⟩⟩
    rw [rRi_p3 h p0 p1, rRi_p0 h p0 p1]
    refine ⟨fun q => no (fun z => q z.1), fun q1 => ⟨⟨by omega, by omega⟩, fun q => no (fun z => q z.2.1), fun q2 => ⟨0, by omega, ?_⟩⟩⟩
    have hg := yGt_ok hI.1 hI.2.2.1 p0 p1 (by omega)
    refine s_gateOf h p0 p1 hg.1 hg.2.1 hg.2.2.1 hg.2.2.2.1 ⟨fun q => no (fun z => q z.2.2), fun q3 => ⟨⟨by omega, by omega⟩, ⟨by omega, by omega⟩, ih k (i + 1) _ (by omega) (by omega) ?_ (by omega) (by omega)⟩⟩
    rw [ySp2, if_pos ⟨q1, q2, q3⟩, ← hx]
theorem s_queue (h : rRi P S σ RA cl t M r A) (hI : yI A) (hx : yQx A) (hF : 50 ≤ F) (f0 : 0 ≤ f) (f1 : f < yS A 2) (hq : Q ((yQ A (6 * g + f)).length : Int) t M) : p_X14_queue F n t r g f M Q := by
  obtain ⟨n1, n2, n3, n4, n5, n6⟩ := id hI.1.1
  obtain ⟨b, b1, b2, b3, b4⟩ := rRi_pk h
  unfold p_X14_queue
  refine ⟨b, b1, b2, ⟨by omega, by omega⟩, fun z hz => ?_⟩
  rw [b3] at hz; subst hz
  exact s_queue_16 h hI b4 b3 (by rw [yQlen hI hx f0 f1]; exact hq) (yS A 3).toNat F 0 0 (by omega) (by omega) rfl (by omega) (by omega)
theorem s_sum_14 (h : rRi P S σ RA cl t M r A) (hC : yCv (yC A)) {b : Nat} (b3 : xn t b = (yC A).length) (b4 : ∀ (i : Nat) (v : yCo), (yC A)[i]? = some v → ∃ c, xr t b i = some c ∧ cl[i]? = some c ∧ xk t c = 14 ∧ xn t c = 4 ∧ M c 0 = v.1 ∧ M c 1 = v.2.1 ∧ M c 2 = v.2.2.1 ∧ M c 3 = v.2.2.2) (hq : Q (ySum f (yC A)) t M) :
    ∀ (L2 L1 : List yCo) (k : Nat) (x : Int), yC A = L1 ++ L2 → L2.length < k → 0 ≤ x → x ≤ 10000 * L1.length → x + ySum f L2 = ySum f (yC A) → p_X14_sum_14 F Q k n f x b ((yC A).length : Int) (L1.length : Int) t M := by
  intro L2
  induction L2 with
  | nil =>
    intro L1 k x hL hk h0 h1 hs
    obtain ⟨k, rfl⟩ : ∃ k', k = k' + 1 := ⟨k - 1, by omega⟩
    unfold p_X14_sum_14
    refine ⟨fun _ => ?_, fun q => absurd q (by rw [hL]; simp)⟩
    rw [← hs] at hq
    simpa [ySum] using hq
  | cons c L2 ih =>
    intro L1 k x hL hk h0 h1 hs
    obtain ⟨k, rfl⟩ : ∃ k', k = k' + 1 := ⟨k - 1, by omega⟩
    have hi : (yC A)[L1.length]? = some c := by rw [hL]; exact yat
    have hlen : (yC A).length = L1.length + (L2.length + 1) := by rw [hL]; simp
    have hv := yCv_t (hL ▸ hC)
    obtain ⟨a, a1, -, a2, a3, a4, a5, -⟩ := b4 _ c hi
    have e1 : ((L1 ++ [c]).length : Int) = (L1.length : Int) + 1 := by simp
    unfold p_X14_sum_14
    refine ⟨fun q => absurd q (by omega), fun _ => ⟨⟨by omega, by omega⟩, a, by rw [Int.toNat_natCast]; exact a1, a2, ⟨by omega, by omega⟩, ?_⟩⟩
    rw [a4, a5]
    simp only [List.length_cons] at hk
    refine ⟨fun q => ⟨⟨by omega, by omega⟩, ?_⟩, fun q => ⟨⟨by omega, by omega⟩, ⟨by omega, by omega⟩, fun z hz => ⟨⟨by omega, by omega⟩, ?_⟩⟩⟩
    · have := ih (L1 ++ [c]) k x (by rw [hL]; simp) (by omega) h0 (by omega) (by rw [← hs, ySum, if_neg q]; omega)
      rw [e1] at this; exact this
    · have := ih (L1 ++ [c]) k z (by rw [hL]; simp) (by omega) (by omega) (by omega) (by rw [← hs, ySum, if_pos q]; omega)
      rw [e1] at this; exact this
theorem s_sum (h : rRi P S σ RA cl t M r A) (hC : yCv (yC A)) (hF : 50 ≤ F) (hq : Q (ySum f (yC A)) t M) : p_X14_sum F n t r f M Q := by
  obtain ⟨b, b1, b2, b3, b4⟩ := rRi_co h
  have := hC.1
  unfold p_X14_sum
  refine ⟨b, b1, b2, ⟨by omega, by omega⟩, fun z hz => ?_⟩
  rw [b3] at hz; subst hz
  exact s_sum_14 h hC b3 b4 hq (yC A) [] F 0 rfl (by omega) (by omega) (by simp) (by omega)
end RQ
