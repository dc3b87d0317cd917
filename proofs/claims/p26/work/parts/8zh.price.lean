/-! A PRICE THAT IS READ: factors, terms, sums of a text that is known -/
def zEms (A : yA) (K : List Int) : yA := K.foldl zEm A
/-- neither a digit nor a letter -/
def nAl (c : Int) : Prop := ¬ (48 ≤ c ∧ c ≤ 57) ∧ ¬ (97 ≤ c ∧ c ≤ 122)
def eF (h : Nat) (L K : List Int) : Prop := ∀ (F : Nat) (b : Nat → Int) (n x e : Nat) (B M : xMe) (Q : xMe → Prop) (A : yA) (u : Int × Int × Int) (k : Nat) (ν : Int), n ≤ 700 → 702 ≤ F → u.2.2 = 1 → yN A → (yK A).length + K.length ≤ 600 → zAt b e L → e + L.length < n → nAl (b (e + L.length)) → h ≤ k → 0 ≤ ν → ν + h ≤ 4 → zC b n x B (zst b n e A u) M → (∀ M', zC b n x B (zst b n (e + L.length) (zEms A K) u) M' → Q M') → p_X8_readFactor F (p_X8_readSumR F (x + 1) k) (x + 1) ν M Q
def eT (h m : Nat) (L K : List Int) : Prop := ∀ (F : Nat) (b : Nat → Int) (n x e : Nat) (B M : xMe) (Q : xMe → Prop) (A : yA) (u : Int × Int × Int) (k : Nat) (ν : Int), n ≤ 700 → 702 ≤ F → u.2.2 = 1 → yN A → (yK A).length + K.length ≤ 600 → zAt b e L → e + L.length < n → nAl (b (e + L.length)) → h ≤ k → 0 ≤ ν → ν + h ≤ 4 → zC b n x B (zst b n e A u) M → (∀ M', zC b n x B (zst b n (e + L.length) (zEms A K) u) M' → p_X8_readTerm_7 F (p_X8_readSumR F (x + 1) k) (x + 1) Q (F - m) ν (m : Int) M') → p_X8_readTerm F (p_X8_readSumR F (x + 1) k) (x + 1) ν M Q
def eS (h m : Nat) (L K : List Int) : Prop := ∀ (F : Nat) (b : Nat → Int) (n x e : Nat) (B M : xMe) (Q : xMe → Prop) (A : yA) (u : Int × Int × Int) (k : Nat) (ν : Int), n ≤ 700 → 702 ≤ F → u.2.2 = 1 → yN A → (yK A).length + K.length ≤ 600 → zAt b e L → e + L.length < n → nAl (b (e + L.length)) → zkd b n (zps b n (e + L.length)) ≠ 42 → zkd b n (zps b n (e + L.length)) ≠ 47 → h ≤ k → 0 ≤ ν → ν + h ≤ 4 → zC b n x B (zst b n e A u) M → (∀ M', zC b n x B (zst b n (e + L.length) (zEms A K) u) M' → p_X8_readSum_7 F (p_X8_readSumR F (x + 1) k) (x + 1) Q (F - m) ν (m : Int) M') → p_X8_readSum F (p_X8_readSumR F (x + 1) k) (x + 1) ν M Q
section RPX
variable {h m : Nat} {L L1 L2 K K1 K2 O : List Int} {b : Nat → Int} {n x e F k : Nat} {B M M' : xMe} {A A' : yA} {u u' : Int × Int × Int} {Q : xMe → Prop} {c v o ν : Int} {PS : Int → xMe → (xMe → Prop) → Prop}
theorem zEms_app : zEms A (K1 ++ K2) = zEms (zEms A K1) K2 := List.foldl_append
theorem yK_ems : ∀ (K : List Int) (A : yA), yK (zEms A K) = yK A ++ K
  | [], A => (List.append_nil _).symm
  | c :: K, A => by
    show yK (zEms (zEm A c) K) = _
    rw [yK_ems K]
    show yK A ++ [c] ++ K = _
    rw [List.append_assoc]; rfl
theorem yN_em (h : yN A) : yN (zEm A c) := h
theorem yN_ems : ∀ (K : List Int) (A : yA), yN A → yN (zEms A K)
  | [], _, h => h
  | c :: K, A, h => yN_ems K (zEm A c) (yN_em h)
theorem zAt_sn (h : zAt b e L) : zAt b e (L ++ b (e + L.length) :: []) := fun i v hv => by
  by_cases q : i < L.length
  · rw [List.getElem?_append_left q] at hv; exact h i v hv
  · rw [List.getElem?_append_right (by omega)] at hv
    have l := (List.getElem?_eq_some_iff.mp hv).1
    have l' : i - L.length < 1 := l
    have e0 : i = L.length := by omega
    subst e0
    rw [Nat.sub_self] at hv
    cases hv; rfl
/-- an operation's text -/
def rOp (O : List Int) (c : Int) : Prop := (O = [43] ∧ c = 43) ∨ (O = [32, 45, 32] ∧ c = 45) ∨ (O = [42, 32] ∧ c = 42) ∨ (O = [47] ∧ c = 47)
theorem rOp_nAl (ho : rOp O c) (h : zAt b e O) : nAl (b e) := by
  rcases ho with ⟨rfl, -⟩ | ⟨rfl, -⟩ | ⟨rfl, -⟩ | ⟨rfl, -⟩ <;> rw [(zAt_cons h).1] <;> unfold nAl <;> decide
theorem rOp_len (ho : rOp O c) : 1 ≤ O.length ∧ O.length ≤ 3 := by
  rcases ho with ⟨rfl, -⟩ | ⟨rfl, -⟩ | ⟨rfl, -⟩ | ⟨rfl, -⟩ <;> decide
theorem rOp_tk (ho : rOp O c) (h : zAt b e O) (he : e + O.length ≤ n) : zkd b n (zps b n e) = c ∧ zG b n (zst b n e A u) = zst b n (e + O.length) A u := by
  have go : ∀ {e' : Nat} {c' : Int}, (0 ≤ c' ∧ c' < 48 ∨ 58 ≤ c' ∧ c' < 97) → c' ≠ 32 → b e' = c' → e' < n → zkd b n (zps b n e') = c' ∧ zG b n (zst b n e' A u) = zst b n (e' + 1) A u := fun {e' c'} h1 h2 h3 h4 => by
    obtain ⟨k1, k2⟩ := tk_sign h1 h3 h4
    have hp : (zst b n e' A u).p = e' := zps_no (by rw [h3]; exact h2) (by omega)
    refine ⟨by rw [zps_no (by rw [h3]; exact h2) (by omega)]; exact k1, ?_⟩
    unfold zG zst
    rw [show (zmk 0 (-1) (zps b n e') A u).p = e' from hp, k2]; rfl
  rcases ho with ⟨rfl, rfl⟩ | ⟨rfl, rfl⟩ | ⟨rfl, rfl⟩ | ⟨rfl, rfl⟩
  · exact go (by decide) (by decide) (zAt_cons h).1 (by simp at he; omega)
  · simp at he
    obtain ⟨a1, a2⟩ := zAt_cons h
    obtain ⟨a3, a4⟩ := zAt_cons a2
    obtain ⟨a5, -⟩ := zAt_cons a4
    rw [zst_sp a1 (by omega), zps_sp a1 (by omega)]
    obtain ⟨g1, g2⟩ := go (by decide) (by decide) a3 (by omega)
    refine ⟨g1, ?_⟩
    rw [g2, zst_sp a5 (by omega)]; rfl
  · simp at he
    obtain ⟨a1, a2⟩ := zAt_cons h
    obtain ⟨a3, -⟩ := zAt_cons a2
    obtain ⟨g1, g2⟩ := go (by decide) (by decide) a1 (by omega)
    refine ⟨g1, ?_⟩
    rw [g2, zst_sp a3 (by omega)]; rfl
  · exact go (by decide) (by decide) (zAt_cons h).1 (by simp at he; omega)
/-! the loops -/
theorem x_term0 (hk : 0 < k) (h0 : 0 ≤ v) (ks : zkd b n (zps b n e) ≠ 42 ∧ zkd b n (zps b n e) ≠ 47) (hC : zC b n x B (zst b n e A u) M) (hq : Q M) : p_X8_readTerm_7 F PS (x + 1) Q k ν v M := by
  obtain ⟨k, rfl⟩ : ∃ k', k = k' + 1 := ⟨k - 1, by omega⟩
  have e4 : M (x + 1 + 1) 4 = zkd b n (zps b n e) := (hC.2.2.2.2.2 rfl).2.1.2.2.1
  unfold p_X8_readTerm_7
  refine ⟨fun _ => hq, fun _ => ⟨fun _ => hq, fun _ => ?_⟩⟩
  unfold p_X8_isEither
  rw [e4]
  exact ⟨fun q => absurd q ks.1, fun _ => ⟨fun _ => ⟨fun _ => hq, fun q => absurd rfl q⟩, fun q => absurd q ks.2⟩⟩
theorem x_sum0 (hk : 0 < k) (h0 : 0 ≤ v) (ks : zkd b n (zps b n e) ≠ 43 ∧ zkd b n (zps b n e) ≠ 45) (hC : zC b n x B (zst b n e A u) M) (hq : Q M) : p_X8_readSum_7 F PS (x + 1) Q k ν v M := by
  obtain ⟨k, rfl⟩ : ∃ k', k = k' + 1 := ⟨k - 1, by omega⟩
  have e4 : M (x + 1 + 1) 4 = zkd b n (zps b n e) := (hC.2.2.2.2.2 rfl).2.1.2.2.1
  unfold p_X8_readSum_7
  refine ⟨fun _ => hq, fun _ => ⟨fun _ => hq, fun _ => ?_⟩⟩
  unfold p_X8_isEither
  rw [e4]
  exact ⟨fun q => absurd q ks.1, fun _ => ⟨fun _ => ⟨fun _ => hq, fun q => absurd rfl q⟩, fun q => absurd q ks.2⟩⟩
theorem x_term1 (hn : n ≤ 700) (hF : 702 ≤ F) (hv : 0 ≤ v ∧ v < 600) (ho : (c = 42 ∧ o = -3) ∨ (c = 47 ∧ o = -4)) (hO : rOp O c) (hA : zAt b e O) (he : e + O.length ≤ n) (hC : zC b n x B (zst b n e A u) M) (hq : ∀ M', zC b n x B (zst b n (e + O.length) A u) M' → p_X8_readFactor F PS (x + 1) ν M' (fun M61 => p_X8_emit (x + 1) o M61 (fun M66 => (xR (v + 1)) ∧ p_X8_readTerm_7 F PS (x + 1) Q k ν (v + 1) M66))) : p_X8_readTerm_7 F PS (x + 1) Q (k + 1) ν v M := by
  obtain ⟨k1, k2⟩ := rOp_tk (A := A) (u := u) hO hA he
  have e4 : M (x + 1 + 1) 4 = c := ((hC.2.2.2.2.2 rfl).2.1.2.2.1).trans k1
  have go : p_X9_moveOn F (x + 1 + 1) M (fun M56 => p_X8_readFactor F PS (x + 1) ν M56 (fun M61 => p_X8_emit (x + 1) o M61 (fun M66 => (xR (v + 1)) ∧ p_X8_readTerm_7 F PS (x + 1) Q k ν (v + 1) M66))) :=
    zC_mv hn hF rfl hC (fun M1 h1 => hq M1 (by rw [k2] at h1; exact h1))
  unfold p_X8_readTerm_7
  refine ⟨fun q => by omega, fun _ => ⟨fun q => absurd hC.1.1 q, fun _ => ?_⟩⟩
  unfold p_X8_isEither
  rw [e4]
  rcases ho with ⟨rfl, rfl⟩ | ⟨rfl, rfl⟩
  · exact ⟨fun _ => ⟨fun q => absurd q (by decide), fun _ => ⟨fun q => absurd e4 q, fun _ => go⟩⟩, fun q => absurd rfl q⟩
  · exact ⟨fun q => absurd q (by decide), fun _ => ⟨fun q => absurd rfl q, fun _ => ⟨fun q => absurd q (by decide), fun _ => ⟨fun _ => go, fun q => absurd (e4.symm.trans q) (by decide)⟩⟩⟩⟩
theorem x_sum1 (hn : n ≤ 700) (hF : 702 ≤ F) (hv : 0 ≤ v ∧ v < 600) (ho : (c = 43 ∧ o = -1) ∨ (c = 45 ∧ o = -2)) (hO : rOp O c) (hA : zAt b e O) (he : e + O.length ≤ n) (hC : zC b n x B (zst b n e A u) M) (hq : ∀ M', zC b n x B (zst b n (e + O.length) A u) M' → p_X8_readTerm F PS (x + 1) ν M' (fun M61 => p_X8_emit (x + 1) o M61 (fun M66 => (xR (v + 1)) ∧ p_X8_readSum_7 F PS (x + 1) Q k ν (v + 1) M66))) : p_X8_readSum_7 F PS (x + 1) Q (k + 1) ν v M := by
  obtain ⟨k1, k2⟩ := rOp_tk (A := A) (u := u) hO hA he
  have e4 : M (x + 1 + 1) 4 = c := ((hC.2.2.2.2.2 rfl).2.1.2.2.1).trans k1
  have go : p_X9_moveOn F (x + 1 + 1) M (fun M56 => p_X8_readTerm F PS (x + 1) ν M56 (fun M61 => p_X8_emit (x + 1) o M61 (fun M66 => (xR (v + 1)) ∧ p_X8_readSum_7 F PS (x + 1) Q k ν (v + 1) M66))) :=
    zC_mv hn hF rfl hC (fun M1 h1 => hq M1 (by rw [k2] at h1; exact h1))
  unfold p_X8_readSum_7
  refine ⟨fun q => by omega, fun _ => ⟨fun q => absurd hC.1.1 q, fun _ => ?_⟩⟩
  unfold p_X8_isEither
  rw [e4]
  rcases ho with ⟨rfl, rfl⟩ | ⟨rfl, rfl⟩
  · exact ⟨fun _ => ⟨fun q => absurd q (by decide), fun _ => ⟨fun q => absurd e4 q, fun _ => go⟩⟩, fun q => absurd rfl q⟩
  · exact ⟨fun q => absurd q (by decide), fun _ => ⟨fun q => absurd rfl q, fun _ => ⟨fun q => absurd q (by decide), fun _ => ⟨fun _ => go, fun q => absurd (e4.symm.trans q) (by decide)⟩⟩⟩⟩
theorem x_emit (hu : u.2.2 = 1) (hK : (yK A).length < 700) (hN : yN A) (hC : zC b n x B (zst b n e A u) M) (hq : ∀ M', zC b n x B (zst b n e (zEm A c) u) M' → Q M') : p_X8_emit (x + 1) c M Q := zC_emit (s := zst b n e A u) rfl hu hK hN hC hq
/-! how they are composed -/
theorem eF_mono {h' : Nat} (g : eF h L K) (hh : h ≤ h') : eF h' L K := fun F b n x e B M Q A u k ν a1 a2 a3 a4 a5 a6 a7 a8 a9 a10 a11 a12 a13 => g F b n x e B M Q A u k ν a1 a2 a3 a4 a5 a6 a7 a8 (by omega) a10 (by omega) a12 a13
theorem eT_mono {h' : Nat} (g : eT h m L K) (hh : h ≤ h') : eT h' m L K := fun F b n x e B M Q A u k ν a1 a2 a3 a4 a5 a6 a7 a8 a9 a10 a11 a12 a13 => g F b n x e B M Q A u k ν a1 a2 a3 a4 a5 a6 a7 a8 (by omega) a10 (by omega) a12 a13
theorem eS_mono {h' : Nat} (g : eS h m L K) (hh : h ≤ h') : eS h' m L K := fun F b n x e B M Q A u k ν a1 a2 a3 a4 a5 a6 a7 a8 b1 b2 a9 a10 a11 a12 a13 => g F b n x e B M Q A u k ν a1 a2 a3 a4 a5 a6 a7 a8 b1 b2 (by omega) a10 (by omega) a12 a13
theorem eT_F (g : eF h L K) : eT h 0 L K := fun F b n x e B M Q A u k ν a1 a2 a3 a4 a5 a6 a7 a8 a9 a10 a11 a12 a13 => by
  unfold p_X8_readTerm
  exact g F b n x e B M _ A u k ν a1 a2 a3 a4 a5 a6 a7 a8 a9 a10 a11 a12 (fun M' h' => a13 M' h')
theorem eS_T (g : eT h m L K) (hm : m ≤ 100) : eS h 0 L K := fun F b n x e B M Q A u k ν a1 a2 a3 a4 a5 a6 a7 a8 b1 b2 a9 a10 a11 a12 a13 => by
  unfold p_X8_readSum
  exact g F b n x e B M _ A u k ν a1 a2 a3 a4 a5 a6 a7 a8 a9 a10 a11 a12 (fun M' h' => x_term0 (by omega) (by omega) ⟨b1, b2⟩ h' (a13 M' h'))
theorem eT_op (g1 : eT h m L1 K1) (g2 : eF h L2 K2) (ho : (c = 42 ∧ o = -3) ∨ (c = 47 ∧ o = -4)) (hO : rOp O c) (hm : m ≤ 100) : eT h (m + 1) (L1 ++ (O ++ L2)) (K1 ++ (K2 ++ [o])) := fun F b n x e B M Q A u k ν a1 a2 a3 a4 a5 a6 a7 a8 a9 a10 a11 a12 a13 => by
  have lo := rOp_len hO
  obtain ⟨t1, t2⟩ := zAt_app a6
  obtain ⟨t3, t4⟩ := zAt_app t2
  have ll : (L1 ++ (O ++ L2)).length = L1.length + O.length + L2.length := by simp; omega
  have lk : (K1 ++ (K2 ++ [o])).length = K1.length + K2.length + 1 := by simp; omega
  rw [ll] at a7 a8 a13
  rw [lk] at a5
  refine g1 F b n x e B M Q A u k ν a1 a2 a3 a4 (by omega) t1 (by omega) (rOp_nAl hO t3) a9 a10 a11 a12 (fun M1 h1 => ?_)
  rw [show F - m = F - (m + 1) + 1 by omega]
  refine x_term1 a1 a2 (by omega) ho hO t3 (by omega) h1 (fun M2 h2 => ?_)
  have kl := yK_ems K1 A
  refine g2 F b n x (e + L1.length + O.length) B M2 _ (zEms A K1) u k ν a1 a2 a3 (yN_ems K1 A a4) (by rw [kl, List.length_append]; omega) t4 (by omega) (by rw [show e + L1.length + O.length + L2.length = e + (L1.length + O.length + L2.length) by omega]; exact a8) a9 a10 a11 h2 (fun M3 h3 => ?_)
  have kl2 := yK_ems K2 (zEms A K1)
  refine x_emit a3 (by rw [kl2, kl, List.length_append, List.length_append]; omega) (yN_ems K2 _ (yN_ems K1 A a4)) h3 (fun M4 h4 => ⟨⟨by omega, by omega⟩, ?_⟩)
  rw [show (m : Int) + 1 = ((m + 1 : Nat) : Int) by omega]
  refine a13 M4 ?_
  rw [zEms_app, zEms_app]
  rw [show e + L1.length + O.length + L2.length = e + (L1.length + O.length + L2.length) by omega] at h4
  exact h4
theorem eS_op {m2 : Nat} (g1 : eS h m L1 K1) (g2 : eT h m2 L2 K2) (hm2 : m2 ≤ 100) (ho : (c = 43 ∧ o = -1) ∨ (c = 45 ∧ o = -2)) (hO : rOp O c) (hm : m ≤ 100) : eS h (m + 1) (L1 ++ (O ++ L2)) (K1 ++ (K2 ++ [o])) := fun F b n x e B M Q A u k ν a1 a2 a3 a4 a5 a6 a7 a8 b1 b2 a9 a10 a11 a12 a13 => by
  have lo := rOp_len hO
  obtain ⟨t1, t2⟩ := zAt_app a6
  obtain ⟨t3, t4⟩ := zAt_app t2
  have ll : (L1 ++ (O ++ L2)).length = L1.length + O.length + L2.length := by simp; omega
  have lk : (K1 ++ (K2 ++ [o])).length = K1.length + K2.length + 1 := by simp; omega
  rw [ll] at a7 a8 a13 b1 b2
  rw [lk] at a5
  obtain ⟨tk, -⟩ := rOp_tk (n := n) (A := A) (u := u) hO t3 (by omega)
  refine g1 F b n x e B M Q A u k ν a1 a2 a3 a4 (by omega) t1 (by omega) (rOp_nAl hO t3) (by rw [tk]; omega) (by rw [tk]; omega) a9 a10 a11 a12 (fun M1 h1 => ?_)
  rw [show F - m = F - (m + 1) + 1 by omega]
  refine x_sum1 a1 a2 (by omega) ho hO t3 (by omega) h1 (fun M2 h2 => ?_)
  have kl := yK_ems K1 A
  rw [show e + (L1.length + O.length + L2.length) = e + L1.length + O.length + L2.length by omega] at a8 b1 b2 a13
  refine g2 F b n x (e + L1.length + O.length) B M2 _ (zEms A K1) u k ν a1 a2 a3 (yN_ems K1 A a4) (by rw [kl, List.length_append]; omega) t4 (by omega) a8 a9 a10 a11 h2 (fun M3 h3 => x_term0 (by omega) (by omega) ⟨b1, b2⟩ h3 ?_)
  have kl2 := yK_ems K2 (zEms A K1)
  refine x_emit a3 (by rw [kl2, kl, List.length_append, List.length_append]; omega) (yN_ems K2 _ (yN_ems K1 A a4)) h3 (fun M4 h4 => ⟨⟨by omega, by omega⟩, ?_⟩)
  rw [show (m : Int) + 1 = ((m + 1 : Nat) : Int) by omega]
  refine a13 M4 ?_
  rw [zEms_app, zEms_app]
  exact h4
theorem eF_par (g : eS h m L K) (hm : m ≤ 100) : eF (h + 1) (40 :: L ++ [41]) K := fun F b n x e B M Q A u k ν a1 a2 a3 a4 a5 a6 a7 a8 a9 a10 a11 a12 a13 => by
  obtain ⟨k, rfl⟩ : ∃ k', k = k' + 1 := ⟨k - 1, by omega⟩
  have ll : (40 :: L ++ [41]).length = L.length + 2 := by simp
  rw [ll] at a7 a8 a13
  obtain ⟨t1, t2⟩ := zAt_cons a6
  obtain ⟨t3, t4⟩ := zAt_app t2
  have t5 := (zAt_cons t4).1
  have s40 : rOp [47] 47 := Or.inr (Or.inr (Or.inr ⟨rfl, rfl⟩))
  obtain ⟨k1, k2⟩ := tk_sign (n := n) (c := 40) (by decide) t1 (by omega)
  have hp : (zst b n e A u).p = e := zps_no (by rw [t1]; decide) (by omega)
  have eG : zG b n (zst b n e A u) = zst b n (e + 1) A u := by
    unfold zG zst
    rw [show (zmk 0 (-1) (zps b n e) A u).p = e from hp, k2]; rfl
  have e4 : M (x + 1 + 1) 4 = 40 := ((a12.2.2.2.2.2 rfl).2.1.2.2.1).trans (by rw [hp]; exact k1)
  obtain ⟨q1, q2⟩ := tk_sign (n := n) (c := 41) (by decide) t5 (by omega)
  have hp41 : zps b n (e + 1 + L.length) = e + 1 + L.length := zps_no (by rw [t5]; decide) (by omega)
  unfold p_X8_readFactor
  refine ⟨fun q => absurd e4 q, fun _ => ⟨fun _ => zC_mv a1 a2 rfl a12 (fun M1 h1 => ⟨⟨by omega, by omega⟩, ?_⟩), fun q => by omega⟩⟩
  rw [eG] at h1
  show p_X8_readSum F (p_X8_readSumR F (x + 1) k) (x + 1) (ν + 1) M1 _
  refine g F b n x (e + 1) B M1 _ A u k (ν + 1) a1 a2 a3 a4 a5 t3 (by omega) (by rw [t5]; unfold nAl; decide) (by rw [hp41, q1]; decide) (by rw [hp41, q1]; decide) (by omega) (by omega) (by omega) h1 (fun M2 h2 => ?_)
  refine x_sum0 (by omega) (by omega) ⟨by rw [hp41, q1]; decide, by rw [hp41, q1]; decide⟩ h2 ?_
  refine n_sign a1 a2 (by decide) (by decide) t4 (by omega) h2 (fun M3 h3 => a13 M3 ?_)
  rw [show e + (L.length + 2) = e + 1 + L.length + 1 by omega]
  exact h3
theorem eF_num (v0 : 0 ≤ v) (v1 : v < 10000) : eF h (rNu v) [v] := fun F b n x e B M Q A u k ν a1 a2 a3 a4 a5 a6 a7 a8 a9 a10 a11 a12 a13 => by
  have t := zAt_sn a6
  obtain ⟨k1, k2, k3⟩ := tk_num (n := n) t v0 v1 a8.1 (by omega)
  have a5' : (yK A).length + 1 ≤ 600 := a5
  have d0 : b e ≠ 32 := fun q => by
    unfold zkd at k1
    rw [if_neg (by omega), if_neg (by omega), if_neg (by omega)] at k1; omega
  have hp : ∀ A', (zst b n e A' u).p = e := fun A' => zps_no d0 (by omega)
  have e4 : M (x + 1 + 1) 4 = 257 := ((a12.2.2.2.2.2 rfl).2.1.2.2.1).trans (by rw [hp]; exact k1)
  have nw : ∀ i, ¬ zIw b n i (zst b n e A u).p := fun i q => by have := q.1; rw [hp, k1] at this; exact absurd this (by decide)
  obtain ⟨w0, w1, w2, w3, w4, w5, w6, w7, w8, w9, w10, w11⟩ := zw0
  unfold p_X8_readFactor
  refine ⟨fun _ => ?_, fun q => absurd (e4.symm.trans q) (by decide)⟩
  refine zC_isw a1 a2 w9 rfl a12 (fun q => absurd q (nw 9)) (fun _ => ⟨fun _ => ?_, fun q => absurd rfl q⟩)
  refine zC_isw a1 a2 w1 rfl a12 (fun q => absurd q (nw 1)) (fun _ => ⟨fun _ => ?_, fun q => absurd rfl q⟩)
  refine zC_isw a1 a2 w10 rfl a12 (fun q => absurd q (nw 10)) (fun _ => ⟨fun _ => ?_, fun q => absurd rfl q⟩)
  refine zC_isw a1 a2 w11 rfl a12 (fun q => absurd q (nw 11)) (fun _ => ⟨fun _ => ?_, fun q => absurd rfl q⟩)
  refine zC_stands (by decide) (by decide) a12 (fun q => absurd rfl q) (fun _ q => absurd (by rw [hp]; exact k1) q) (fun _ _ q => absurd (by rw [hp, k3]; omega) q) (fun _ _ _ k6 => ⟨fun q => absurd q (by decide), fun _ z ez => ?_⟩)
  rw [hp, k3] at k6
  rw [show M (x + 1 + 1) 6 = v from k6] at ez
  subst ez
  refine x_emit a3 (by omega) a4 a12 (fun M1 h1 => zC_mv a1 a2 rfl h1 (fun M2 h2 => a13 M2 ?_))
  have eG : zG b n (zst b n e (zEm A z) u) = zst b n (e + (rNu z).length) (zEm A z) u := by
    unfold zG zst
    rw [show (zmk 0 (-1) (zps b n e) (zEm A z) u).p = e from hp _, k2]; rfl
  rw [eG] at h2
  exact h2
theorem eF_var {s : Nat} (hs : (s = 9 ∧ c = -5) ∨ (s = 1 ∧ c = -6) ∨ (s = 10 ∧ c = -7) ∨ (s = 11 ∧ c = -8)) : eF h (rLt s) [c] := fun F b n x e B M Q A u k ν a1 a2 a3 a4 a5 a6 a7 a8 a9 a10 a11 a12 a13 => by
  have t := zAt_sn a6
  have hs12 : s < 12 := by omega
  obtain ⟨k1, k2, k3⟩ := tk_word (n := n) (zWd_17 hs12) t a8.2 (by omega)
  have a5' : (yK A).length + 1 ≤ 600 := a5
  have d0 : b e ≠ 32 := fun q => by
    unfold zkd at k3
    rw [if_neg (by omega), if_neg (by omega), if_neg (by omega)] at k3; omega
  have hp : ∀ A', (zst b n e A' u).p = e := fun A' => zps_no d0 (by omega)
  have e4 : M (x + 1 + 1) 4 = 256 := ((a12.2.2.2.2.2 rfl).2.1.2.2.1).trans (by rw [hp]; exact k3)
  have hw : zIw b n s (zst b n e A u).p := by rw [hp]; exact k1
  have one : ∀ {j}, j < 12 → zIw b n j (zst b n e A u).p → s = j := fun {j} hj q => zIw_1 hs12 hj hw q
  obtain ⟨w0, w1, w2, w3, w4, w5, w6, w7, w8, w9, w10, w11⟩ := zw0
  have fin : ∀ c', c' = c → p_X8_emit (x + 1) c' M (fun M142 => p_X9_moveOn F (x + 1 + 1) M142 (fun M149 => Q M149)) := fun c' ec => by
    subst ec
    refine x_emit a3 (by omega) a4 a12 (fun M1 h1 => zC_mv a1 a2 rfl h1 (fun M2 h2 => a13 M2 ?_))
    have eG : zG b n (zst b n e (zEm A c') u) = zst b n (e + (rLt s).length) (zEm A c') u := by
      unfold zG zst
      rw [show (zmk 0 (-1) (zps b n e) (zEm A c') u).p = e from hp _, k2]; rfl
    rw [eG] at h2
    exact h2
  unfold p_X8_readFactor
  refine ⟨fun _ => ?_, fun q => absurd (e4.symm.trans q) (by decide)⟩
  refine zC_isw a1 a2 w9 rfl a12 (fun q => ⟨fun q2 => absurd q2 (by decide), fun _ => fin _ (by have := one (by decide) q; omega)⟩) (fun n9 => ⟨fun _ => ?_, fun q => absurd rfl q⟩)
  refine zC_isw a1 a2 w1 rfl a12 (fun q => ⟨fun q2 => absurd q2 (by decide), fun _ => fin _ (by have := one (by decide) q; omega)⟩) (fun n1 => ⟨fun _ => ?_, fun q => absurd rfl q⟩)
  refine zC_isw a1 a2 w10 rfl a12 (fun q => ⟨fun q2 => absurd q2 (by decide), fun _ => fin _ (by have := one (by decide) q; omega)⟩) (fun n10 => ⟨fun _ => ?_, fun q => absurd rfl q⟩)
  refine zC_isw a1 a2 w11 rfl a12 (fun q => ⟨fun q2 => absurd q2 (by decide), fun _ => fin _ (by have := one (by decide) q; omega)⟩) (fun n11 => ?_)
  exfalso
  rcases hs with ⟨rfl, -⟩ | ⟨rfl, -⟩ | ⟨rfl, -⟩ | ⟨rfl, -⟩
  · exact n9 hw
  · exact n1 hw
  · exact n10 hw
  · exact n11 hw
end RPX
