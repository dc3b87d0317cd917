/-! QUEUES -/
def yCh (nx : Int → Int) : List Int → Prop
  | [] => True
  | [_] => True
  | p :: r :: l => nx p = r ∧ yCh nx (r :: l)
theorem yCh_o {nx nx' : Int → Int} : ∀ {l : List Int}, yCh nx l → (∀ p ∈ l, nx' p = nx p) → yCh nx' l
  | [], _, _ => trivial
  | [_], _, _ => trivial
  | p :: r :: l, h, e => ⟨(e p List.mem_cons_self).trans h.1, yCh_o h.2 (fun q hq => e q (List.mem_cons_of_mem _ hq))⟩
theorem yCh_tl {nx : Int → Int} {p : Int} {l : List Int} (h : yCh nx (p :: l)) : yCh nx l := by
  match l, h with
  | [], _ => trivial
  | r :: l, h => exact h.2
/-- a packet joins: the chain's last points to it -/
theorem yCh_push {nx nx' : Int → Int} {x : Int} : ∀ {l : List Int} {z : Int}, yCh nx l → l.getLast? = some z → nx' z = x → (∀ p ∈ l, p ≠ z → nx' p = nx p) → l.Nodup → yCh nx' (l ++ [x])
  | [], _, _, h, _, _, _ => by simp at h
  | [p], z, _, h, hz, _, _ => by
    simp at h; subst h
    exact ⟨hz, trivial⟩
  | p :: r :: l, z, h, hl, hz, he, hn => by
    have hl' : (r :: l).getLast? = some z := by rw [List.getLast?_cons_cons] at hl; exact hl
    have hzm : z ∈ r :: l := List.mem_of_getLast? hl'
    have hpz : p ≠ z := fun q => (List.nodup_cons.mp hn).1 (q ▸ hzm)
    refine ⟨(he p List.mem_cons_self hpz).trans h.1, yCh_push h.2 hl' hz (fun q hq => he q (List.mem_cons_of_mem _ hq)) (List.nodup_cons.mp hn).2⟩
/-- queues in a memory: how many, the first, the last, the next -/
def yQm (mn fi la nx : Int → Int) (q : Int → List Int) : Prop := ∀ s, 0 ≤ s → s < 36 → mn s = ((q s).length : Int) ∧ (∀ p, (q s).head? = some p → fi s = p) ∧ (∀ p, (q s).getLast? = some p → la s = p) ∧ yCh nx (q s)
def yQok (q : Int → List Int) : Prop := (∀ s, (q s).Nodup ∧ (q s).length ≤ 20 ∧ ∀ p ∈ q s, 0 ≤ p ∧ p < 40) ∧ ∀ s s' p, p ∈ q s → p ∈ q s' → s = s'
def yqu (q : Int → List Int) (s : Int) (l : List Int) : Int → List Int := fun j => if j = s then l else q j
/-- a packet joins -/
theorem yQm_join {mn fi la nx mn' fi' la' nx' : Int → Int} {q : Int → List Int} {s x : Int} (hq : yQok q) (h : yQm mn fi la nx q) (hs : 0 ≤ s ∧ s < 36) (hx : ∀ s', x ∉ q s') (h1 : mn' s = mn s + 1) (h1' : ∀ s', s' ≠ s → 0 ≤ s' → s' < 36 → mn' s' = mn s')
    (h2 : q s = [] → fi' s = x) (h2b : q s ≠ [] → fi' s = fi s) (h2' : ∀ s', s' ≠ s → 0 ≤ s' → s' < 36 → fi' s' = fi s') (h3 : la' s = x) (h3' : ∀ s', s' ≠ s → 0 ≤ s' → s' < 36 → la' s' = la s') (h4 : q s ≠ [] → nx' (la s) = x) (h4' : ∀ p, 0 ≤ p → p < 40 → p ≠ x → (q s = [] ∨ p ≠ la s) → nx' p = nx p) : yQm mn' fi' la' nx' (yqu q s (q s ++ [x])) := by
  intro s' a b
  obtain ⟨g1, g2, g3, g4⟩ := h s' a b
  obtain ⟨n1, n2, n3⟩ := hq.1 s'
  unfold yqu
  by_cases e : s' = s
  · subst e
    rw [if_pos rfl]
    refine ⟨by rw [h1, g1]; simp, fun p hp => ?_, fun p hp => ?_, ?_⟩
    · cases hl : q s' with
      | nil => rw [hl] at hp; simp at hp; rw [h2 hl, hp]
      | cons y l => rw [hl] at hp; simp at hp; rw [h2b (by rw [hl]; simp), g2 p (by rw [hl]; simp [hp])]
    · simp at hp; rw [h3, hp]
    · cases hl : q s' with
      | nil => exact trivial
      | cons y l =>
        have hne : q s' ≠ [] := by rw [hl]; simp
        obtain ⟨z, hz⟩ : ∃ z, (q s').getLast? = some z := by
          rw [hl]; exact ⟨_, List.getLast?_eq_some_getLast (by simp)⟩
        have hlz := g3 z hz
        rw [← hl]
        refine yCh_push g4 hz (by rw [← hlz]; exact h4 hne) (fun p hp hpz => ?_) n1
        have := n3 p hp
        exact h4' p this.1 this.2 (fun e => hx s' (e ▸ hp)) (Or.inr (by rw [hlz]; exact hpz))
  · rw [if_neg e]
    refine ⟨(h1' s' e a b).trans g1, fun p hp => (h2' s' e a b).trans (g2 p hp), fun p hp => (h3' s' e a b).trans (g3 p hp), yCh_o g4 (fun p hp => ?_)⟩
    have hb := n3 p hp
    refine h4' p hb.1 hb.2 (fun e => hx s' (e ▸ hp)) ?_
    cases hl : q s with
    | nil => exact Or.inl rfl
    | cons y l =>
      refine Or.inr (fun hpl => e ?_)
      obtain ⟨z, hz⟩ : ∃ z, (q s).getLast? = some z := by
        rw [hl]; exact ⟨_, List.getLast?_eq_some_getLast (by simp)⟩
      have hlz := (h s hs.1 hs.2).2.2.1 z hz
      exact hq.2 s' s p hp (by rw [hpl, hlz]; exact List.mem_of_getLast? hz)
/-- the first leaves -/
theorem yQm_leave {mn fi la nx mn' fi' : Int → Int} {q : Int → List Int} {s p : Int} {l : List Int} (h : yQm mn fi la nx q) (hs : 0 ≤ s ∧ s < 36) (hl : q s = p :: l) (h1 : mn' s = mn s - 1) (h1' : ∀ s', s' ≠ s → 0 ≤ s' → s' < 36 → mn' s' = mn s') (h2 : fi' s = nx p) (h2' : ∀ s', s' ≠ s → 0 ≤ s' → s' < 36 → fi' s' = fi s') : yQm mn' fi' la nx (yqu q s l) := by
  intro s' a b
  obtain ⟨g1, g2, g3, g4⟩ := h s' a b
  unfold yqu
  by_cases e : s' = s
  · subst e
    rw [if_pos rfl]
    rw [hl] at g1 g3 g4
    refine ⟨by rw [h1, g1]; simp, fun r hr => ?_, fun r hr => ?_, yCh_tl g4⟩
    · cases l with
      | nil => simp at hr
      | cons y l => simp at hr; rw [h2, ← hr]; exact g4.1
    · cases l with
      | nil => simp at hr
      | cons y l => exact g3 r (by rw [List.getLast?_cons_cons]; exact hr)
  · rw [if_neg e]
    exact ⟨(h1' s' e a b).trans g1, fun r hr => (h2' s' e a b).trans (g2 r hr), g3, g4⟩
/-- the class's queues, those of the World at w -/
def yQc (w : Nat) (M : xMe) (q : Int → List Int) : Prop := yQm (fun s => M (w + 12) s.toNat) (fun s => M (w + 13) s.toNat) (fun s => M (w + 14) s.toNat) (fun p => M (w + 15) p.toNat) q
/-- the model's, in the row at b -/
def yQd (b : Nat) (M : xMe) (q : Int → List Int) : Prop := yQm (fun s => M b (562 + 4 * s).toNat) (fun s => M b (563 + 4 * s).toNat) (fun s => M b (564 + 4 * s).toNat) (fun p => M b (89 + 9 * p).toNat) q
theorem yQc_o {w : Nat} {M M' : xMe} {q : Int → List Int} (h : yQc w M q) (e : ∀ b, w + 12 ≤ b → b ≤ w + 15 → M' b = M b) : yQc w M' q := by
  unfold yQc
  rw [e (w + 12) (by omega) (by omega), e (w + 13) (by omega) (by omega), e (w + 14) (by omega) (by omega), e (w + 15) (by omega) (by omega)]
  exact h
theorem yQok_in {q : Int → List Int} (h : yQok q) {s p : Int} (hp : p ∈ q s) : 0 ≤ p ∧ p < 40 := (h.1 s).2.2 p hp
theorem s_X4_join {w : Nat} {s x : Int} {M : xMe} {q : Int → List Int} {Q : xMe → Prop} (hq : yQok q) (h : yQc w M q) (hs : 0 ≤ s ∧ s < 36) (hx : 0 ≤ x ∧ x < 40) (hxq : ∀ s', x ∉ q s') (hl : (q s).length < 20) (hk : ∀ M', yQc w M' (yqu q s (q s ++ [x])) → (∀ b, b < w + 12 ∨ w + 16 ≤ b → M' b = M b) → Q M') : p_X4_join (w + 10) s x M Q := by
  obtain ⟨g1, g2, g3, g4⟩ := h s hs.1 hs.2
  simp only at g1 g2 g3
  have hlast : q s ≠ [] → ∃ z, (q s).getLast? = some z ∧ M (w + 14) s.toNat = z ∧ 0 ≤ z ∧ z < 40 := fun hne => by
    have hz := List.getLast?_eq_some_getLast hne
    exact ⟨_, hz, g3 _ hz, yQok_in hq (List.mem_of_getLast? hz)⟩
  have hnil : M (w + 12) s.toNat ≤ 0 → q s = [] := fun h => by
    rw [g1] at h; exact List.eq_nil_of_length_eq_zero (by omega)
  have hcons : 0 < M (w + 12) s.toNat → q s ≠ [] := fun h e => by rw [g1, e] at h; simp at h
  have ht : ∀ s', s' ≠ s → 0 ≤ s' → s'.toNat ≠ s.toNat := fun s' h1 h2 e => h1 (by omega)
  have hfirst : ∀ M', q s = [] → M' = xw (xw (xw (xw M (w + 13) s.toNat x) (w + 14) s.toNat x) (w + 15) x.toNat (-1)) (w + 12) s.toNat (M (w + 12) s.toNat + 1) → Q M' := fun M' hn e => by
    subst e
    refine hk _ (yQm_join hq h hs hxq ?_ ?_ ?_ ?_ ?_ ?_ ?_ ?_ ?_) (fun b hb => ?_)
    · show xw _ _ _ _ (w + 12) s.toNat = _; rw [xw_s]
    · intro s' h1 h2 h3; show xw _ _ _ _ (w + 12) s'.toNat = _; rw [xw_j (ht s' h1 h2), xw_b (by omega), xw_b (by omega), xw_b (by omega)]
    · intro _; show xw _ _ _ _ (w + 13) s.toNat = _; rw [xw_b (by omega), xw_b (by omega), xw_b (by omega), xw_s]
    · intro h9; exact absurd hn h9
    · intro s' h1 h2 h3; show xw _ _ _ _ (w + 13) s'.toNat = _; rw [xw_b (by omega), xw_b (by omega), xw_b (by omega), xw_j (ht s' h1 h2)]
    · show xw _ _ _ _ (w + 14) s.toNat = _; rw [xw_b (by omega), xw_b (by omega), xw_s]
    · intro s' h1 h2 h3; show xw _ _ _ _ (w + 14) s'.toNat = _; rw [xw_b (by omega), xw_b (by omega), xw_j (ht s' h1 h2), xw_b (by omega)]
    · intro h9; exact absurd hn h9
    · intro p h1 h2 h3 h4; show xw _ _ _ _ (w + 15) p.toNat = _; rw [xw_b (by omega), xw_j (by omega), xw_b (by omega), xw_b (by omega)]
    · rw [xw_B (by omega), xw_B (by omega), xw_B (by omega), xw_B (by omega)]
  have hnext : ∀ M', q s ≠ [] → M' = xw (xw (xw (xw M (w + 15) (M (w + 14) s.toNat).toNat x) (w + 14) s.toNat x) (w + 15) x.toNat (-1)) (w + 12) s.toNat (M (w + 12) s.toNat + 1) → Q M' := fun M' hn e => by
    subst e
    obtain ⟨z, hz, hz2, hz3⟩ := hlast hn
    have hzx : z ≠ x := fun e => hxq s (e ▸ List.mem_of_getLast? hz)
    refine hk _ (yQm_join hq h hs hxq ?_ ?_ ?_ ?_ ?_ ?_ ?_ ?_ ?_) (fun b hb => ?_)
    · show xw _ _ _ _ (w + 12) s.toNat = _; rw [xw_s]
    · intro s' h1 h2 h3; show xw _ _ _ _ (w + 12) s'.toNat = _; rw [xw_j (ht s' h1 h2), xw_b (by omega), xw_b (by omega), xw_b (by omega)]
    · intro h9; exact absurd h9 hn
    · intro _; show xw _ _ _ _ (w + 13) s.toNat = _; rw [xw_b (by omega), xw_b (by omega), xw_b (by omega), xw_b (by omega)]
    · intro s' h1 h2 h3; show xw _ _ _ _ (w + 13) s'.toNat = _; rw [xw_b (by omega), xw_b (by omega), xw_b (by omega), xw_b (by omega)]
    · show xw _ _ _ _ (w + 14) s.toNat = _; rw [xw_b (by omega), xw_b (by omega), xw_s]
    · intro s' h1 h2 h3; show xw _ _ _ _ (w + 14) s'.toNat = _; rw [xw_b (by omega), xw_b (by omega), xw_j (ht s' h1 h2), xw_b (by omega)]
    · intro _; show xw _ _ _ _ (w + 15) (M (w + 14) s.toNat).toNat = _; rw [xw_b (by omega), xw_j (by omega), xw_b (by omega), xw_s]
    · intro p h1 h2 h3 h4; show xw _ _ _ _ (w + 15) p.toNat = _
      have : p ≠ M (w + 14) s.toNat := by rcases h4 with h4 | h4; exact absurd h4 hn; exact h4
      rw [xw_b (by omega), xw_j (by omega), xw_b (by omega), xw_j (by omega)]
    · rw [xw_B (by omega), xw_B (by omega), xw_B (by omega), xw_B (by omega)]
  unfold p_X4_join
  simp only [xR, show w + 10 + 2 = w + 12 from rfl, show w + 10 + 3 = w + 13 from rfl, show w + 10 + 4 = w + 14 from rfl, show w + 10 + 5 = w + 15 from rfl, forall_eq]
  have r : ∀ {N : xMe} {k j : Nat} {v : Int}, xw N (w + (k + 13)) j v (w + 12) s.toNat = N (w + 12) s.toNat := fun {N k j v} => xw_b (by omega)
  simp only [r]
  refine ⟨fun h => absurd h (by omega), fun _ => ⟨fun h => absurd h (by omega), fun _ => ⟨fun h => absurd h (by omega), fun _ => ⟨fun _ => ⟨⟨by omega, by omega⟩, ⟨by omega, by omega⟩, fun h0 => ⟨⟨by omega, by omega⟩, ⟨by omega, by omega⟩, ⟨by omega, by omega⟩, ⟨by omega, by omega⟩, ⟨by omega, by omega⟩, ⟨by omega, by omega⟩, hfirst _ (hnil h0) rfl⟩, fun h0 => ?_⟩, fun h => absurd h (by omega)⟩⟩⟩⟩
  obtain ⟨z, hz, hz2, hz3⟩ := hlast (hcons h0)
  refine ⟨fun h => absurd h (by omega), fun _ => ⟨fun h => absurd h (by omega), fun _ => ⟨⟨by omega, by omega⟩, ⟨by omega, by omega⟩, ⟨by omega, by omega⟩, ⟨by omega, by omega⟩, ⟨by omega, by omega⟩, ⟨by omega, by omega⟩, hnext _ (hcons h0) rfl⟩⟩⟩
theorem s_X4_firstIn {w : Nat} {s : Int} {M : xMe} {q : Int → List Int} {Q : Int → xMe → Prop} (hq : yQok q) (h : yQc w M q) (hs : 0 ≤ s ∧ s < 36) (hk : Q ((q s).headD (-1)) M) : p_X4_firstIn (w + 10) s M Q := by
  obtain ⟨g1, g2, g3, g4⟩ := h s hs.1 hs.2
  simp only at g1 g2
  unfold p_X4_firstIn
  simp only [show w + 10 + 2 = w + 12 from rfl, show w + 10 + 3 = w + 13 from rfl]
  refine ⟨fun h => absurd h (by omega), fun _ => ⟨fun h => absurd h (by omega), fun _ => ⟨⟨by omega, by omega⟩, fun h0 => ⟨⟨by omega, by omega⟩, fun z ez => ?_⟩, fun h0 => ?_⟩⟩⟩
  · cases hl : q s with
    | nil => rw [g1, hl] at h0; simp at h0
    | cons p l =>
      have hp := yQok_in hq (show p ∈ q s by rw [hl]; simp)
      rw [g2 p (by rw [hl]; rfl)] at ez
      rw [hl] at hk
      subst ez
      exact ⟨fun h => absurd h (by omega), fun _ => ⟨fun h => absurd h (by omega), fun _ => hk⟩⟩
  · have : q s = [] := by rw [g1] at h0; exact List.eq_nil_of_length_eq_zero (by omega)
    rw [this] at hk
    exact hk
theorem s_X4_leave {w : Nat} {s p : Int} {l : List Int} {M : xMe} {q : Int → List Int} {Q : xMe → Prop} (hq : yQok q) (h : yQc w M q) (hs : 0 ≤ s ∧ s < 36) (hl : q s = p :: l) (hk : ∀ M', yQc w M' (yqu q s l) → (∀ b, b < w + 12 ∨ w + 14 ≤ b → M' b = M b) → Q M') : p_X4_leave (w + 10) s M Q := by
  unfold p_X4_leave
  refine s_X4_firstIn hq h hs ?_
  obtain ⟨g1, g2, g3, g4⟩ := h s hs.1 hs.2
  simp only at g1
  have hp := yQok_in hq (show p ∈ q s by rw [hl]; simp)
  have hlen := (hq.1 s).2.1
  have ht : ∀ s', s' ≠ s → 0 ≤ s' → s'.toNat ≠ s.toNat := fun s' h1 h2 e => h1 (by omega)
  rw [hl] at g1 hlen ⊢
  simp only [List.length_cons] at g1 hlen
  simp only [List.headD_cons, xR, show w + 10 + 2 = w + 12 from rfl, show w + 10 + 3 = w + 13 from rfl, show w + 10 + 5 = w + 15 from rfl, forall_eq]
  have r : xw M (w + 13) s.toNat (M (w + 15) p.toNat) (w + 12) s.toNat = (l.length : Int) + 1 := by rw [xw_b (by omega)]; simpa using g1
  rw [r]
  refine ⟨fun h => absurd h (by omega), fun _ => ⟨⟨by omega, by omega⟩, ⟨by omega, by omega⟩, ⟨by omega, by omega⟩, ⟨by omega, by omega⟩, ⟨by omega, by omega⟩, hk _ ?_ (fun b hb => ?_)⟩⟩
  · have hc := yQm_leave (mn' := fun s' => xw (xw M (w + 13) s.toNat (M (w + 15) p.toNat)) (w + 12) s.toNat ((l.length : Int) + 1 - 1) (w + 12) s'.toNat) (fi' := fun s' => xw (xw M (w + 13) s.toNat (M (w + 15) p.toNat)) (w + 12) s.toNat ((l.length : Int) + 1 - 1) (w + 13) s'.toNat) h hs hl (by rw [xw_s, g1]; simp) (fun s' h1 h2 h3 => by rw [xw_j (ht s' h1 h2), xw_b (by omega)]) (by rw [xw_b (by omega), xw_s]) (fun s' h1 h2 h3 => by rw [xw_b (by omega), xw_j (ht s' h1 h2)])
    unfold yQc
    rw [show (xw (xw M (w + 13) s.toNat (M (w + 15) p.toNat)) (w + 12) s.toNat ((l.length : Int) + 1 - 1)) (w + 14) = M (w + 14) by rw [xw_B (by omega), xw_B (by omega)], show (xw (xw M (w + 13) s.toNat (M (w + 15) p.toNat)) (w + 12) s.toNat ((l.length : Int) + 1 - 1)) (w + 15) = M (w + 15) by rw [xw_B (by omega), xw_B (by omega)]]
    exact hc
  · rw [xw_B (by omega), xw_B (by omega)]
