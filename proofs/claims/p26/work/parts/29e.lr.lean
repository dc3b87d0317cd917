def p_L_randomRoad_861 (F : Nat) (G : xGx) (Q : Option Nat → xTh → xMe → Prop) (n : Nat) (x0 : Nat) (x1 : Nat) (x3 : Nat) (t : xTh) (M : xMe) : Prop :=
    (∃ k863 : Nat, k863 ≤ n ∧ p_L_loadText F k863 t x0 x1 M (fun r863 t863 M863 => (∃ b867 : Nat, xr t863 x3 4 = some b867 ∧ xk t863 b867 = 17 ∧ (xR ((xn t863 b867 : Nat) : Int)) ∧ ((r863 ≠ (((xn t863 b867 : Nat) : Int)) → Q none t863 M863) ∧ (r863 = (((xn t863 b867 : Nat) : Int)) → Q ((some x3)) t863 M863)))))
def p_L_randomRoad_855 (F : Nat) (G : xGx) (Q : Option Nat → xTh → xMe → Prop) (K813 : Nat → Nat → Nat → Nat → Int → Int → Int → xTh → xMe → Prop) (K861 : Nat → Nat → Nat → Nat → xTh → xMe → Prop) (n : Nat) (x0 : Nat) (x1 : Nat) (x3 : Nat) (x4 : Int) (x5 : Int) (x6 : Int) (t : xTh) (M : xMe) : Prop :=
    (xR (x6 + 1)) ∧ K813 n x0 x1 x3 x4 x5 (x6 + 1) t M
def p_L_randomRoad_823 (F : Nat) (G : xGx) (Q : Option Nat → xTh → xMe → Prop) (K813 : Nat → Nat → Nat → Nat → Int → Int → Int → xTh → xMe → Prop) (K855 : Nat → Nat → Nat → Nat → Int → Int → Int → xTh → xMe → Prop) (K861 : Nat → Nat → Nat → Nat → xTh → xMe → Prop) : Nat → Nat → Nat → Nat → Nat → Int → Int → Int → Int → xTh → xMe → Prop
  | 0, _, _, _, _, _, _, _, _, _, _ => False
  | k + 1, n, x0, x1, x3, x4, x5, x6, x7, t, M =>
    ((x5 ≤ x7 → K855 n x0 x1 x3 x4 x5 x6 t M) ∧ (x7 < x5 → (∃ b831 : Nat, xr t x3 7 = some b831 ∧ xk t b831 = 17 ∧ ((0 : Int) ≤ x6 ∧ x6 < (xn t b831 : Int)) ∧ (∃ b836 : Nat, xr t b831 x6.toNat = some b836 ∧ xk t b836 = 14 ∧ (∃ b840 : Nat, xr t x3 1 = some b840 ∧ xk t b840 = 17 ∧ ((0 : Int) ≤ x6 ∧ x6 < (xn t b840 : Int)) ∧ (∃ b845 : Nat, xr t b840 x6.toNat = some b845 ∧ xk t b845 = 14 ∧ ((0 : Int) ≤ 1 ∧ 1 < (xn t b845 : Int)) ∧ ((0 : Int) ≤ x7 ∧ x7 < (xn t b836 : Int)) ∧ (∀ M848 : xMe, M848 = xw M b836 x7.toNat (M b845 1) → (xR (x7 + 1)) ∧ p_L_randomRoad_823 F G Q K813 K855 K861 k n x0 x1 x3 x4 x5 x6 (x7 + 1) t M848)))))))
def p_L_randomRoad_813 (F : Nat) (G : xGx) (Q : Option Nat → xTh → xMe → Prop) (K861 : Nat → Nat → Nat → Nat → xTh → xMe → Prop) : Nat → Nat → Nat → Nat → Nat → Int → Int → Int → xTh → xMe → Prop
  | 0, _, _, _, _, _, _, _, _, _ => False
  | k + 1, n, x0, x1, x3, x4, x5, x6, t, M =>
    ((x4 ≤ x6 → K861 n x0 x1 x3 t M) ∧ (x6 < x4 → p_L_randomRoad_823 F G Q (p_L_randomRoad_813 F G Q K861 k) (p_L_randomRoad_855 F G Q (p_L_randomRoad_813 F G Q K861 k) K861) K861 F n x0 x1 x3 x4 x5 x6 0 t M))
def p_L_randomRoad_810 (F : Nat) (G : xGx) (Q : Option Nat → xTh → xMe → Prop) (n : Nat) (x0 : Nat) (x1 : Nat) (x3 : Nat) (x4 : Int) (x5 : Int) (t : xTh) (M : xMe) : Prop :=
    p_L_randomRoad_813 F G Q (p_L_randomRoad_861 F G Q) F n x0 x1 x3 x4 x5 0 t M
def p_L_randomRoad_762 (F : Nat) (G : xGx) (Q : Option Nat → xTh → xMe → Prop) (n : Nat) (x0 : Nat) (x1 : Nat) (x2 : Nat) (x3 : Nat) (x4 : Int) (x5 : Int) (t : xTh) (M : xMe) : Prop :=
    (∃ k764 : Nat, k764 ≤ n ∧ p_X13_below F k764 t x2 2 M (fun r764 t764 M764 => ((r764 ≠ 0 → p_L_randomRoad_810 F G Q ((n - k764)) x0 x1 x3 x4 x5 t764 M764) ∧ (r764 = 0 → (∃ k774 : Nat, k774 ≤ (n - k764) ∧ p_X13_below F k774 t764 x2 3 M764 (fun r774 t774 M774 => (∃ k777 : Nat, k777 ≤ ((n - k764) - k774) ∧ p_X12_randomR F 3 k777 t774 x2 r774 M774 (fun r777 t777 M777 => (∀ t780 : xTh, t780 = xwr t777 x3 13 (some r777) → (∃ k787 : Nat, k787 ≤ (((n - k764) - k774) - k777) ∧ p_L_write F G k787 t780 x0 x1 ((G.2.2.2.1 22)) M777 (fun t787 M787 => (∀ b, xr t787 x3 13 = some b → xk t787 b = 12) ∧ (∃ bo797 : Nat, xr t787 x3 13 = some bo797 ∧ (∃ k797 : Nat, k797 ≤ ((((n - k764) - k774) - k777) - k787) ∧ p_X12_textR F G 3 k797 t787 bo797 0 M787 (fun r797 t797 M797 => (∃ k800 : Nat, k800 ≤ (((((n - k764) - k774) - k777) - k787) - k797) ∧ p_L_write F G k800 t797 x0 x1 r797 M797 (fun t800 M800 => (∃ k807 : Nat, k807 ≤ ((((((n - k764) - k774) - k777) - k787) - k797) - k800) ∧ p_L_write F G k807 t800 x0 x1 ((G.2.2.2.1 30)) M800 (fun t807 M807 => p_L_randomRoad_810 F G Q ((((((((n - k764) - k774) - k777) - k787) - k797) - k800) - k807)) x0 x1 x3 x4 x5 t807 M807))))))))))))))))))
def p_L_randomRoad_701 (F : Nat) (G : xGx) (Q : Option Nat → xTh → xMe → Prop) (n : Nat) (x0 : Nat) (x1 : Nat) (x2 : Nat) (x3 : Nat) (x4 : Int) (x5 : Int) (t : xTh) (M : xMe) : Prop :=
    (∃ k703 : Nat, k703 ≤ n ∧ p_X13_below F k703 t x2 2 M (fun r703 t703 M703 => ((r703 ≠ 0 → p_L_randomRoad_762 F G Q ((n - k703)) x0 x1 x2 x3 x4 x5 t703 M703) ∧ (r703 = 0 → (∃ k713 : Nat, k713 ≤ (n - k703) ∧ p_X13_below F k713 t703 x2 101 M703 (fun r713 t713 M713 => (∀ M716 : xMe, M716 = xw M713 x3 11 r713 → (∃ k724 : Nat, k724 ≤ ((n - k703) - k713) ∧ p_X13_below F k724 t713 x2 12 M716 (fun r724 t724 M724 => (xR (1 + r724)) ∧ (∀ M728 : xMe, M728 = xw M724 x3 12 (1 + r724) → (1 ≤ (((n - k703) - k713) - k724)) ∧ (∀ (a736 : Nat) (t736 : xTh) (M736 : xMe), a736 = xz t724 → t736 = xnw t724 14 2 → M736 = xw0 M728 a736 → ((0 : Int) ≤ 0 ∧ 0 < (xn t736 a736 : Int)) ∧ (∀ M744 : xMe, M744 = xw M736 a736 0 (M736 x3 11) → ((0 : Int) ≤ 1 ∧ 1 < (xn t736 a736 : Int)) ∧ (∀ M751 : xMe, M751 = xw M744 a736 1 (M744 x3 12) → (∃ k752 : Nat, k752 ≤ ((((n - k703) - k713) - k724) - 1) ∧ p_L_writeNumbers F G k752 t736 x0 x1 ((G.2.2.2.1 6)) a736 M751 (fun t752 M752 => (∃ k759 : Nat, k759 ≤ (((((n - k703) - k713) - k724) - 1) - k752) ∧ p_L_write F G k759 t752 x0 x1 ((G.2.2.2.1 20)) M752 (fun t759 M759 => p_L_randomRoad_762 F G Q (((((((n - k703) - k713) - k724) - 1) - k752) - k759)) x0 x1 x2 x3 x4 x5 t759 M759)))))))))))))))))
def p_L_randomRoad_659 (F : Nat) (G : xGx) (Q : Option Nat → xTh → xMe → Prop) (n : Nat) (x0 : Nat) (x1 : Nat) (x2 : Nat) (x3 : Nat) (x4 : Int) (x5 : Int) (t : xTh) (M : xMe) : Prop :=
    (∃ k661 : Nat, k661 ≤ n ∧ p_X13_below F k661 t x2 2 M (fun r661 t661 M661 => ((r661 ≠ 0 → p_L_randomRoad_701 F G Q ((n - k661)) x0 x1 x2 x3 x4 x5 t661 M661) ∧ (r661 = 0 → (∃ k671 : Nat, k671 ≤ (n - k661) ∧ p_X13_below F k671 t661 x2 6 M661 (fun r671 t671 M671 => (∀ M674 : xMe, M674 = xw M671 x3 10 r671 → (1 ≤ ((n - k661) - k671)) ∧ (∀ (a682 : Nat) (t682 : xTh) (M682 : xMe), a682 = xz t671 → t682 = xnw t671 14 1 → M682 = xw0 M674 a682 → ((0 : Int) ≤ 0 ∧ 0 < (xn t682 a682 : Int)) ∧ (∀ M690 : xMe, M690 = xw M682 a682 0 (M682 x3 10) → (∃ k691 : Nat, k691 ≤ (((n - k661) - k671) - 1) ∧ p_L_writeNumbers F G k691 t682 x0 x1 ((G.2.2.2.1 5)) a682 M690 (fun t691 M691 => (∃ k698 : Nat, k698 ≤ ((((n - k661) - k671) - 1) - k691) ∧ p_L_write F G k698 t691 x0 x1 ((G.2.2.2.1 20)) M691 (fun t698 M698 => p_L_randomRoad_701 F G Q ((((((n - k661) - k671) - 1) - k691) - k698)) x0 x1 x2 x3 x4 x5 t698 M698)))))))))))))
def p_L_randomRoad_547 (F : Nat) (G : xGx) (Q : Option Nat → xTh → xMe → Prop) (K659 : Nat → Nat → Nat → Nat → Nat → Int → Int → xTh → xMe → Prop) : Nat → Nat → Nat → Nat → Nat → Nat → Int → Int → Int → xTh → xMe → Prop
  | 0, _, _, _, _, _, _, _, _, _, _ => False
  | k + 1, n, x0, x1, x2, x3, x4, x5, x6, t, M =>
    ((x6 ≤ 0 → K659 n x0 x1 x2 x3 x4 x5 t M) ∧ (0 < x6 → (∃ b554 : Nat, xr t x3 5 = some b554 ∧ xk t b554 = 17 ∧ (1 ≤ n) ∧ (∀ (a558 : Nat) (t558 : xTh) (M558 : xMe), a558 = xz t → t558 = xnw t 14 4 → M558 = xw0 M a558 → (∃ k565 : Nat, k565 ≤ (n - 1) ∧ p_X13_below F k565 t558 x2 x5 M558 (fun r565 t565 M565 => ((0 : Int) ≤ 0 ∧ 0 < (xn t565 a558 : Int)) ∧ (∀ M568 : xMe, M568 = xw M565 a558 0 r565 → (∃ k575 : Nat, k575 ≤ ((n - 1) - k565) ∧ p_X13_below F k575 t565 x2 30 M568 (fun r575 t575 M575 => (xR (1 + r575)) ∧ ((0 : Int) ≤ 1 ∧ 1 < (xn t575 a558 : Int)) ∧ (∀ M579 : xMe, M579 = xw M575 a558 1 (1 + r575) → (∃ k586 : Nat, k586 ≤ (((n - 1) - k565) - k575) ∧ p_X13_below F k586 t575 x2 20 M579 (fun r586 t586 M586 => (xR (1 + r586)) ∧ ((0 : Int) ≤ 2 ∧ 2 < (xn t586 a558 : Int)) ∧ (∀ M590 : xMe, M590 = xw M586 a558 2 (1 + r586) → ((0 : Int) ≤ 3 ∧ 3 < (xn t586 a558 : Int)) ∧ (∀ M594 : xMe, M594 = xw M590 a558 3 0 → (∃ k595 : Nat, k595 ≤ ((((n - 1) - k565) - k575) - k586) ∧ p_L_with F k595 t586 b554 a558 M594 (fun r595 t595 M595 => (∀ t598 : xTh, t598 = xwr t595 x3 5 (some r595) → (∃ b602 : Nat, xr t598 x3 5 = some b602 ∧ xk t598 b602 = 17 ∧ (xR ((xn t598 b602 : Nat) : Int)) ∧ (xR ((((xn t598 b602 : Nat) : Int)) - 1)) ∧ ((0 : Int) ≤ ((((xn t598 b602 : Nat) : Int)) - 1) ∧ ((((xn t598 b602 : Nat) : Int)) - 1) < (xn t598 b602 : Int)) ∧ (∃ b612 : Nat, xr t598 b602 ((((xn t598 b602 : Nat) : Int)) - 1).toNat = some b612 ∧ xk t598 b612 = 14 ∧ (1 ≤ (((((n - 1) - k565) - k575) - k586) - k595)) ∧ (∀ (a620 : Nat) (t620 : xTh) (M620 : xMe), a620 = xz t598 → t620 = xnw t598 14 3 → M620 = xw0 M595 a620 → ((0 : Int) ≤ 0 ∧ 0 < (xn t620 b612 : Int)) ∧ ((0 : Int) ≤ 0 ∧ 0 < (xn t620 a620 : Int)) ∧ (∀ M628 : xMe, M628 = xw M620 a620 0 (M620 b612 0) → ((0 : Int) ≤ 1 ∧ 1 < (xn t620 b612 : Int)) ∧ ((0 : Int) ≤ 1 ∧ 1 < (xn t620 a620 : Int)) ∧ (∀ M635 : xMe, M635 = xw M628 a620 1 (M628 b612 1) → ((0 : Int) ≤ 2 ∧ 2 < (xn t620 b612 : Int)) ∧ ((0 : Int) ≤ 2 ∧ 2 < (xn t620 a620 : Int)) ∧ (∀ M642 : xMe, M642 = xw M635 a620 2 (M635 b612 2) → (∃ k643 : Nat, k643 ≤ ((((((n - 1) - k565) - k575) - k586) - k595) - 1) ∧ p_L_writeNumbers F G k643 t620 x0 x1 ((G.2.2.2.1 4)) a620 M642 (fun t643 M643 => (∃ k650 : Nat, k650 ≤ (((((((n - 1) - k565) - k575) - k586) - k595) - 1) - k643) ∧ p_L_write F G k650 t643 x0 x1 ((G.2.2.2.1 20)) M643 (fun t650 M650 => (xR (x6 + (-1))) ∧ p_L_randomRoad_547 F G Q K659 k (((((((((n - 1) - k565) - k575) - k586) - k595) - 1) - k643) - k650)) x0 x1 x2 x3 x4 x5 (x6 + (-1)) t650 M650)))))))))))))))))))))))))))
def p_L_randomRoad_545 (F : Nat) (G : xGx) (Q : Option Nat → xTh → xMe → Prop) (n : Nat) (x0 : Nat) (x1 : Nat) (x2 : Nat) (x3 : Nat) (x4 : Int) (x5 : Int) (y0 : Int) (t : xTh) (M : xMe) : Prop :=
    p_L_randomRoad_547 F G Q (p_L_randomRoad_659 F G Q) F n x0 x1 x2 x3 x4 x5 y0 t M
def p_L_randomRoad_530 (F : Nat) (G : xGx) (Q : Option Nat → xTh → xMe → Prop) (n : Nat) (x0 : Nat) (x1 : Nat) (x2 : Nat) (x3 : Nat) (x4 : Int) (x5 : Int) (t : xTh) (M : xMe) : Prop :=
    ((x5 ≠ 0 → (∃ k542 : Nat, k542 ≤ n ∧ p_X13_below F k542 t x2 6 M (fun r542 t542 M542 => p_L_randomRoad_545 F G Q ((n - k542)) x0 x1 x2 x3 x4 x5 r542 t542 M542))) ∧ (x5 = 0 → p_L_randomRoad_545 F G Q n x0 x1 x2 x3 x4 x5 0 t M))
def p_L_randomRoad_439 (F : Nat) (G : xGx) (Q : Option Nat → xTh → xMe → Prop) (K375 : Nat → Nat → Nat → Nat → Nat → Int → Int → Int → xTh → xMe → Prop) (K530 : Nat → Nat → Nat → Nat → Nat → Int → Int → xTh → xMe → Prop) (n : Nat) (x0 : Nat) (x1 : Nat) (x2 : Nat) (x3 : Nat) (x4 : Int) (x5 : Int) (x6 : Int) (y0 : Int) (y1 : Nat) (y2 : Int) (y3 : Int) (y4 : Nat) (y5 : Nat) (y6 : Nat) (y7 : Nat) (t : xTh) (M : xMe) : Prop :=
    (∃ k439 : Nat, k439 ≤ n ∧ p_X13_below F k439 t y1 y0 M (fun r439 t439 M439 => (xR (y2 + r439)) ∧ ((0 : Int) ≤ y3 ∧ y3 < (xn t439 y4 : Int)) ∧ (∀ M443 : xMe, M443 = xw M439 y4 y3.toNat (y2 + r439) → ((0 : Int) ≤ 3 ∧ 3 < (xn t439 y5 : Int)) ∧ (∀ M447 : xMe, M447 = xw M443 y5 3 0 → ((0 : Int) ≤ 4 ∧ 4 < (xn t439 y5 : Int)) ∧ (∀ M451 : xMe, M451 = xw M447 y5 4 0 → ((0 : Int) ≤ 5 ∧ 5 < (xn t439 y5 : Int)) ∧ (∀ M455 : xMe, M455 = xw M451 y5 5 0 → ((0 : Int) ≤ 6 ∧ 6 < (xn t439 y5 : Int)) ∧ (∀ M460 : xMe, M460 = xw M455 y5 6 ((-1)) → ((0 : Int) ≤ 7 ∧ 7 < (xn t439 y5 : Int)) ∧ (∀ M465 : xMe, M465 = xw M460 y5 7 0 → (∃ k466 : Nat, k466 ≤ (n - k439) ∧ p_L_with F k466 t439 y6 y5 M465 (fun r466 t466 M466 => (∀ t469 : xTh, t469 = xwr t466 y7 4 (some r466) → (∃ b473 : Nat, xr t469 x3 4 = some b473 ∧ xk t469 b473 = 17 ∧ (xR ((xn t469 b473 : Nat) : Int)) ∧ (xR ((((xn t469 b473 : Nat) : Int)) - 1)) ∧ ((0 : Int) ≤ ((((xn t469 b473 : Nat) : Int)) - 1) ∧ ((((xn t469 b473 : Nat) : Int)) - 1) < (xn t469 b473 : Int)) ∧ (∃ b483 : Nat, xr t469 b473 ((((xn t469 b473 : Nat) : Int)) - 1).toNat = some b483 ∧ xk t469 b483 = 14 ∧ (1 ≤ ((n - k439) - k466)) ∧ (∀ (a491 : Nat) (t491 : xTh) (M491 : xMe), a491 = xz t469 → t491 = xnw t469 14 3 → M491 = xw0 M466 a491 → ((0 : Int) ≤ 0 ∧ 0 < (xn t491 b483 : Int)) ∧ ((0 : Int) ≤ 0 ∧ 0 < (xn t491 a491 : Int)) ∧ (∀ M499 : xMe, M499 = xw M491 a491 0 (M491 b483 0) → ((0 : Int) ≤ 1 ∧ 1 < (xn t491 b483 : Int)) ∧ ((0 : Int) ≤ 1 ∧ 1 < (xn t491 a491 : Int)) ∧ (∀ M506 : xMe, M506 = xw M499 a491 1 (M499 b483 1) → ((0 : Int) ≤ 2 ∧ 2 < (xn t491 b483 : Int)) ∧ ((0 : Int) ≤ 2 ∧ 2 < (xn t491 a491 : Int)) ∧ (∀ M513 : xMe, M513 = xw M506 a491 2 (M506 b483 2) → (∃ k514 : Nat, k514 ≤ (((n - k439) - k466) - 1) ∧ p_L_writeNumbers F G k514 t491 x0 x1 ((G.2.2.2.1 3)) a491 M513 (fun t514 M514 => (∃ k521 : Nat, k521 ≤ ((((n - k439) - k466) - 1) - k514) ∧ p_L_write F G k521 t514 x0 x1 ((G.2.2.2.1 20)) M514 (fun t521 M521 => (xR (x6 + (-1))) ∧ K375 ((((((n - k439) - k466) - 1) - k514) - k521)) x0 x1 x2 x3 x4 x5 (x6 + (-1)) t521 M521)))))))))))))))))))))
def p_L_randomRoad_416 (F : Nat) (G : xGx) (Q : Option Nat → xTh → xMe → Prop) (K375 : Nat → Nat → Nat → Nat → Nat → Int → Int → Int → xTh → xMe → Prop) (K530 : Nat → Nat → Nat → Nat → Nat → Int → Int → xTh → xMe → Prop) (n : Nat) (x0 : Nat) (x1 : Nat) (x2 : Nat) (x3 : Nat) (x4 : Int) (x5 : Int) (x6 : Int) (y0 : Int) (y1 : Nat) (y2 : Int) (y3 : Nat) (y4 : Nat) (y5 : Nat) (y6 : Nat) (t : xTh) (M : xMe) : Prop :=
    (∃ k416 : Nat, k416 ≤ n ∧ p_X13_below F k416 t y1 y0 M (fun r416 t416 M416 => ((0 : Int) ≤ y2 ∧ y2 < (xn t416 y3 : Int)) ∧ (∀ M419 : xMe, M419 = xw M416 y3 y2.toNat r416 → (∃ k426 : Nat, k426 ≤ (n - k416) ∧ p_X13_below F k426 t416 x2 4 M419 (fun r426 t426 M426 => ((r426 ≠ 0 → p_L_randomRoad_439 F G Q K375 K530 (((n - k416) - k426)) x0 x1 x2 x3 x4 x5 x6 20 x2 1 2 y4 y4 y5 y6 t426 M426) ∧ (r426 = 0 → p_L_randomRoad_439 F G Q K375 K530 (((n - k416) - k426)) x0 x1 x2 x3 x4 x5 x6 60 x2 1 2 y4 y4 y5 y6 t426 M426)))))))
def p_L_randomRoad_375 (F : Nat) (G : xGx) (Q : Option Nat → xTh → xMe → Prop) (K530 : Nat → Nat → Nat → Nat → Nat → Int → Int → xTh → xMe → Prop) : Nat → Nat → Nat → Nat → Nat → Nat → Int → Int → Int → xTh → xMe → Prop
  | 0, _, _, _, _, _, _, _, _, _, _ => False
  | k + 1, n, x0, x1, x2, x3, x4, x5, x6, t, M =>
    ((x6 ≤ 0 → K530 n x0 x1 x2 x3 x4 x5 t M) ∧ (0 < x6 → (∃ b382 : Nat, xr t x3 4 = some b382 ∧ xk t b382 = 17 ∧ (1 ≤ n) ∧ (∀ (a387 : Nat) (t387 : xTh) (M387 : xMe), a387 = xz t → t387 = xnw t 14 8 → M387 = xw0 M a387 → (∃ k394 : Nat, k394 ≤ (n - 1) ∧ p_X13_below F k394 t387 x2 x5 M387 (fun r394 t394 M394 => ((0 : Int) ≤ 0 ∧ 0 < (xn t394 a387 : Int)) ∧ (∀ M397 : xMe, M397 = xw M394 a387 0 r394 → (∃ k403 : Nat, k403 ≤ ((n - 1) - k394) ∧ p_X13_below F k403 t394 x2 4 M397 (fun r403 t403 M403 => ((r403 ≠ 0 → p_L_randomRoad_416 F G Q (p_L_randomRoad_375 F G Q K530 k) K530 ((((n - 1) - k394) - k403)) x0 x1 x2 x3 x4 x5 x6 6 x2 1 a387 a387 b382 x3 t403 M403) ∧ (r403 = 0 → p_L_randomRoad_416 F G Q (p_L_randomRoad_375 F G Q K530 k) K530 ((((n - 1) - k394) - k403)) x0 x1 x2 x3 x4 x5 x6 50 x2 1 a387 a387 b382 x3 t403 M403)))))))))))
def p_L_randomRoad_373 (F : Nat) (G : xGx) (Q : Option Nat → xTh → xMe → Prop) (n : Nat) (x0 : Nat) (x1 : Nat) (x2 : Nat) (x3 : Nat) (x4 : Int) (x5 : Int) (y0 : Int) (t : xTh) (M : xMe) : Prop :=
    p_L_randomRoad_375 F G Q (p_L_randomRoad_530 F G Q) F n x0 x1 x2 x3 x4 x5 y0 t M
def p_L_randomRoad_351 (F : Nat) (G : xGx) (Q : Option Nat → xTh → xMe → Prop) (n : Nat) (x0 : Nat) (x1 : Nat) (x2 : Nat) (x3 : Nat) (x4 : Int) (t : xTh) (M : xMe) : Prop :=
    (∃ b352 : Nat, xr t x3 2 = some b352 ∧ xk t b352 = 17 ∧ (xR ((xn t b352 : Nat) : Int)) ∧ (∀ z356 : Int, z356 = ((xn t b352 : Nat) : Int) → ((z356 ≠ 0 → (∃ k370 : Nat, k370 ≤ n ∧ p_X13_below F k370 t x2 10 M (fun r370 t370 M370 => p_L_randomRoad_373 F G Q ((n - k370)) x0 x1 x2 x3 x4 z356 r370 t370 M370))) ∧ (z356 = 0 → p_L_randomRoad_373 F G Q n x0 x1 x2 x3 x4 z356 0 t M))))
def p_L_randomRoad_262 (F : Nat) (G : xGx) (Q : Option Nat → xTh → xMe → Prop) (K166 : Nat → Nat → Nat → Nat → Nat → Int → Int → xTh → xMe → Prop) (K351 : Nat → Nat → Nat → Nat → Nat → Int → xTh → xMe → Prop) (n : Nat) (x0 : Nat) (x1 : Nat) (x2 : Nat) (x3 : Nat) (x4 : Int) (x5 : Int) (x7 : Nat) (y0 : Int) (y1 : Int) (y2 : Nat) (y3 : Nat) (y4 : Nat) (y5 : Nat) (t : xTh) (M : xMe) : Prop :=
    ((0 : Int) ≤ y1 ∧ y1 < (xn t y2 : Int)) ∧ (∀ M262 : xMe, M262 = xw M y2 y1.toNat y0 → ((0 : Int) ≤ 1 ∧ 1 < (xn t y3 : Int)) ∧ (∀ M266 : xMe, M266 = xw M262 y3 1 0 → ((0 : Int) ≤ 2 ∧ 2 < (xn t y3 : Int)) ∧ (∀ M270 : xMe, M270 = xw M266 y3 2 0 → (∃ k271 : Nat, k271 ≤ n ∧ p_L_with F k271 t y4 y3 M270 (fun r271 t271 M271 => (∀ t274 : xTh, t274 = xwr t271 y5 2 (some r271) → (∃ k283 : Nat, k283 ≤ (n - k271) ∧ p_L_writeNumbers F G k283 t274 x0 x1 ((G.2.2.2.1 2)) x7 M271 (fun t283 M283 => (∃ b287 : Nat, xr t283 x3 2 = some b287 ∧ xk t283 b287 = 17 ∧ (xR ((xn t283 b287 : Nat) : Int)) ∧ (xR ((((xn t283 b287 : Nat) : Int)) - 1)) ∧ ((0 : Int) ≤ ((((xn t283 b287 : Nat) : Int)) - 1) ∧ ((((xn t283 b287 : Nat) : Int)) - 1) < (xn t283 b287 : Int)) ∧ (∃ b297 : Nat, xr t283 b287 ((((xn t283 b287 : Nat) : Int)) - 1).toNat = some b297 ∧ xk t283 b297 = 14 ∧ ((0 : Int) ≤ 0 ∧ 0 < (xn t283 b297 : Int)) ∧ ((0 < (M283 b297 0) → (1 ≤ ((n - k271) - k283)) ∧ (∀ (a316 : Nat) (t316 : xTh) (M316 : xMe), a316 = xz t283 → t316 = xnw t283 14 1 → M316 = xw0 M283 a316 → (∃ b321 : Nat, xr t316 x3 2 = some b321 ∧ xk t316 b321 = 17 ∧ (xR ((xn t316 b321 : Nat) : Int)) ∧ (xR ((((xn t316 b321 : Nat) : Int)) - 1)) ∧ ((0 : Int) ≤ ((((xn t316 b321 : Nat) : Int)) - 1) ∧ ((((xn t316 b321 : Nat) : Int)) - 1) < (xn t316 b321 : Int)) ∧ (∃ b331 : Nat, xr t316 b321 ((((xn t316 b321 : Nat) : Int)) - 1).toNat = some b331 ∧ xk t316 b331 = 14 ∧ ((0 : Int) ≤ 0 ∧ 0 < (xn t316 b331 : Int)) ∧ ((0 : Int) ≤ 0 ∧ 0 < (xn t316 a316 : Int)) ∧ (∀ M334 : xMe, M334 = xw M316 a316 0 (M316 b331 0) → (∃ k335 : Nat, k335 ≤ (((n - k271) - k283) - 1) ∧ p_L_writeNumbers F G k335 t316 x0 x1 ((G.2.2.2.1 21)) a316 M334 (fun t335 M335 => (∃ k342 : Nat, k342 ≤ ((((n - k271) - k283) - 1) - k335) ∧ p_L_write F G k342 t335 x0 x1 ((G.2.2.2.1 20)) M335 (fun t342 M342 => (xR (x5 + (-1))) ∧ K166 ((((((n - k271) - k283) - 1) - k335) - k342)) x0 x1 x2 x3 x4 (x5 + (-1)) t342 M342))))))))) ∧ ((M283 b297 0) ≤ 0 → (∃ k305 : Nat, k305 ≤ ((n - k271) - k283) ∧ p_X13_below F k305 t283 x2 2 M283 (fun r305 t305 M305 => ((r305 ≠ 0 → (∃ k342 : Nat, k342 ≤ (((n - k271) - k283) - k305) ∧ p_L_write F G k342 t305 x0 x1 ((G.2.2.2.1 20)) M305 (fun t342 M342 => (xR (x5 + (-1))) ∧ K166 (((((n - k271) - k283) - k305) - k342)) x0 x1 x2 x3 x4 (x5 + (-1)) t342 M342))) ∧ (r305 = 0 → (1 ≤ (((n - k271) - k283) - k305)) ∧ (∀ (a316 : Nat) (t316 : xTh) (M316 : xMe), a316 = xz t305 → t316 = xnw t305 14 1 → M316 = xw0 M305 a316 → (∃ b321 : Nat, xr t316 x3 2 = some b321 ∧ xk t316 b321 = 17 ∧ (xR ((xn t316 b321 : Nat) : Int)) ∧ (xR ((((xn t316 b321 : Nat) : Int)) - 1)) ∧ ((0 : Int) ≤ ((((xn t316 b321 : Nat) : Int)) - 1) ∧ ((((xn t316 b321 : Nat) : Int)) - 1) < (xn t316 b321 : Int)) ∧ (∃ b331 : Nat, xr t316 b321 ((((xn t316 b321 : Nat) : Int)) - 1).toNat = some b331 ∧ xk t316 b331 = 14 ∧ ((0 : Int) ≤ 0 ∧ 0 < (xn t316 b331 : Int)) ∧ ((0 : Int) ≤ 0 ∧ 0 < (xn t316 a316 : Int)) ∧ (∀ M334 : xMe, M334 = xw M316 a316 0 (M316 b331 0) → (∃ k335 : Nat, k335 ≤ ((((n - k271) - k283) - k305) - 1) ∧ p_L_writeNumbers F G k335 t316 x0 x1 ((G.2.2.2.1 21)) a316 M334 (fun t335 M335 => (∃ k342 : Nat, k342 ≤ (((((n - k271) - k283) - k305) - 1) - k335) ∧ p_L_write F G k342 t335 x0 x1 ((G.2.2.2.1 20)) M335 (fun t342 M342 => (xR (x5 + (-1))) ∧ K166 (((((((n - k271) - k283) - k305) - 1) - k335) - k342)) x0 x1 x2 x3 x4 (x5 + (-1)) t342 M342))))))))))))))))))))))))
def p_L_randomRoad_221 (F : Nat) (G : xGx) (Q : Option Nat → xTh → xMe → Prop) (K166 : Nat → Nat → Nat → Nat → Nat → Int → Int → xTh → xMe → Prop) (K351 : Nat → Nat → Nat → Nat → Nat → Int → xTh → xMe → Prop) (n : Nat) (x0 : Nat) (x1 : Nat) (x2 : Nat) (x3 : Nat) (x4 : Int) (x5 : Int) (x7 : Nat) (t : xTh) (M : xMe) : Prop :=
    (∃ b223 : Nat, xr t x3 3 = some b223 ∧ xk t b223 = 17 ∧ (∃ k228 : Nat, k228 ≤ n ∧ p_L_with F k228 t b223 x7 M (fun r228 t228 M228 => (∀ t231 : xTh, t231 = xwr t228 x3 3 (some r228) → (∃ b236 : Nat, xr t231 x3 2 = some b236 ∧ xk t231 b236 = 17 ∧ (1 ≤ (n - k228)) ∧ (∀ (a240 : Nat) (t240 : xTh) (M240 : xMe), a240 = xz t231 → t240 = xnw t231 14 3 → M240 = xw0 M228 a240 → (∃ k246 : Nat, k246 ≤ ((n - k228) - 1) ∧ p_X13_below F k246 t240 x2 2 M240 (fun r246 t246 M246 => ((r246 ≠ 0 → (∃ k259 : Nat, k259 ≤ (((n - k228) - 1) - k246) ∧ p_X13_below F k259 t246 x2 7 M246 (fun r259 t259 M259 => p_L_randomRoad_262 F G Q K166 K351 (((((n - k228) - 1) - k246) - k259)) x0 x1 x2 x3 x4 x5 x7 r259 0 a240 a240 b236 x3 t259 M259))) ∧ (r246 = 0 → p_L_randomRoad_262 F G Q K166 K351 ((((n - k228) - 1) - k246)) x0 x1 x2 x3 x4 x5 x7 0 0 a240 a240 b236 x3 t246 M246))))))))))
def p_L_randomRoad_194 (F : Nat) (G : xGx) (Q : Option Nat → xTh → xMe → Prop) (K166 : Nat → Nat → Nat → Nat → Nat → Int → Int → xTh → xMe → Prop) (K221 : Nat → Nat → Nat → Nat → Nat → Int → Int → Nat → xTh → xMe → Prop) (K351 : Nat → Nat → Nat → Nat → Nat → Int → xTh → xMe → Prop) : Nat → Nat → Nat → Nat → Nat → Nat → Int → Int → Int → Nat → Int → xTh → xMe → Prop
  | 0, _, _, _, _, _, _, _, _, _, _, _, _ => False
  | k + 1, n, x0, x1, x2, x3, x4, x5, x6, x7, x8, t, M =>
    (xR ((xn t x7 : Nat) : Int)) ∧ (((((xn t x7 : Nat) : Int)) ≤ x8 → K221 n x0 x1 x2 x3 x4 x5 x7 t M) ∧ (x8 < (((xn t x7 : Nat) : Int)) → (xR (x6 + x8)) ∧ (x4 ≠ (0 : Int) ∧ xR (Int.tmod (x6 + x8) x4)) ∧ ((0 : Int) ≤ x8 ∧ x8 < (xn t x7 : Int)) ∧ (∀ M214 : xMe, M214 = xw M x7 x8.toNat (Int.tmod (x6 + x8) x4) → (xR (x8 + 1)) ∧ p_L_randomRoad_194 F G Q K166 K221 K351 k n x0 x1 x2 x3 x4 x5 x6 x7 (x8 + 1) t M214)))
def p_L_randomRoad_166 (F : Nat) (G : xGx) (Q : Option Nat → xTh → xMe → Prop) (K351 : Nat → Nat → Nat → Nat → Nat → Int → xTh → xMe → Prop) : Nat → Nat → Nat → Nat → Nat → Nat → Int → Int → xTh → xMe → Prop
  | 0, _, _, _, _, _, _, _, _, _ => False
  | k + 1, n, x0, x1, x2, x3, x4, x5, t, M =>
    ((x5 ≤ 0 → K351 n x0 x1 x2 x3 x4 t M) ∧ (0 < x5 → (∃ k174 : Nat, k174 ≤ n ∧ p_X13_below F k174 t x2 x4 M (fun r174 t174 M174 => (∃ k183 : Nat, k183 ≤ (n - k174) ∧ p_X13_below F k183 t174 x2 x4 M174 (fun r183 t183 M183 => (xR (1 + r183)) ∧ ((0 : Int) ≤ (1 + r183) ∧ (1 + r183) ≤ 64) ∧ (1 ≤ ((n - k174) - k183)) ∧ (∀ (a187 : Nat) (t187 : xTh) (M187 : xMe), a187 = xz t183 → t187 = xnw t183 14 (1 + r183).toNat → M187 = xw0 M183 a187 → p_L_randomRoad_194 F G Q (p_L_randomRoad_166 F G Q K351 k) (p_L_randomRoad_221 F G Q (p_L_randomRoad_166 F G Q K351 k) K351) K351 F ((((n - k174) - k183) - 1)) x0 x1 x2 x3 x4 x5 r174 a187 0 t187 M187)))))))
def p_L_randomRoad_164 (F : Nat) (G : xGx) (Q : Option Nat → xTh → xMe → Prop) (n : Nat) (x0 : Nat) (x1 : Nat) (x2 : Nat) (x3 : Nat) (x4 : Int) (y0 : Int) (t : xTh) (M : xMe) : Prop :=
    p_L_randomRoad_166 F G Q (p_L_randomRoad_351 F G Q) F n x0 x1 x2 x3 x4 y0 t M
def p_L_randomRoad_143 (F : Nat) (G : xGx) (Q : Option Nat → xTh → xMe → Prop) (n : Nat) (x0 : Nat) (x1 : Nat) (x2 : Nat) (x3 : Nat) (t : xTh) (M : xMe) : Prop :=
    (∃ b144 : Nat, xr t x3 1 = some b144 ∧ xk t b144 = 17 ∧ (xR ((xn t b144 : Nat) : Int)) ∧ (∀ z148 : Int, z148 = ((xn t b144 : Nat) : Int) → ((z148 ≠ 0 → (∃ k161 : Nat, k161 ≤ n ∧ p_X13_below F k161 t x2 4 M (fun r161 t161 M161 => p_L_randomRoad_164 F G Q ((n - k161)) x0 x1 x2 x3 z148 r161 t161 M161))) ∧ (z148 = 0 → p_L_randomRoad_164 F G Q n x0 x1 x2 x3 z148 0 t M))))
def p_L_randomRoad_100 (F : Nat) (G : xGx) (Q : Option Nat → xTh → xMe → Prop) (K22 : Nat → Nat → Nat → Nat → Nat → Int → xTh → xMe → Prop) (K143 : Nat → Nat → Nat → Nat → Nat → xTh → xMe → Prop) (n : Nat) (x0 : Nat) (x1 : Nat) (x2 : Nat) (x3 : Nat) (x4 : Int) (y0 : Int) (y1 : Nat) (y2 : Int) (y3 : Int) (y4 : Nat) (y5 : Nat) (y6 : Nat) (y7 : Nat) (t : xTh) (M : xMe) : Prop :=
    (∃ k100 : Nat, k100 ≤ n ∧ p_X13_below F k100 t y1 y0 M (fun r100 t100 M100 => (xR (y2 + r100)) ∧ ((0 : Int) ≤ y3 ∧ y3 < (xn t100 y4 : Int)) ∧ (∀ M104 : xMe, M104 = xw M100 y4 y3.toNat (y2 + r100) → (∃ k105 : Nat, k105 ≤ (n - k100) ∧ p_L_with F k105 t100 y6 y5 M104 (fun r105 t105 M105 => (∀ t108 : xTh, t108 = xwr t105 y7 1 (some r105) → (∃ b116 : Nat, xr t108 x3 1 = some b116 ∧ xk t108 b116 = 17 ∧ (xR ((xn t108 b116 : Nat) : Int)) ∧ (xR ((((xn t108 b116 : Nat) : Int)) - 1)) ∧ ((0 : Int) ≤ ((((xn t108 b116 : Nat) : Int)) - 1) ∧ ((((xn t108 b116 : Nat) : Int)) - 1) < (xn t108 b116 : Int)) ∧ (∃ b126 : Nat, xr t108 b116 ((((xn t108 b116 : Nat) : Int)) - 1).toNat = some b126 ∧ xk t108 b126 = 14 ∧ (∃ k127 : Nat, k127 ≤ ((n - k100) - k105) ∧ p_L_writeNumbers F G k127 t108 x0 x1 ((G.2.2.2.1 1)) b126 M105 (fun t127 M127 => (∃ k134 : Nat, k134 ≤ (((n - k100) - k105) - k127) ∧ p_L_write F G k134 t127 x0 x1 ((G.2.2.2.1 20)) M127 (fun t134 M134 => (xR (x4 + (-1))) ∧ K22 (((((n - k100) - k105) - k127) - k134)) x0 x1 x2 x3 (x4 + (-1)) t134 M134))))))))))))
def p_L_randomRoad_77 (F : Nat) (G : xGx) (Q : Option Nat → xTh → xMe → Prop) (K22 : Nat → Nat → Nat → Nat → Nat → Int → xTh → xMe → Prop) (K143 : Nat → Nat → Nat → Nat → Nat → xTh → xMe → Prop) (n : Nat) (x0 : Nat) (x1 : Nat) (x2 : Nat) (x3 : Nat) (x4 : Int) (y0 : Int) (y1 : Nat) (y2 : Int) (y3 : Int) (y4 : Nat) (y5 : Nat) (y6 : Nat) (y7 : Nat) (t : xTh) (M : xMe) : Prop :=
    (∃ k77 : Nat, k77 ≤ n ∧ p_X13_below F k77 t y1 y0 M (fun r77 t77 M77 => (xR (y2 + r77)) ∧ ((0 : Int) ≤ y3 ∧ y3 < (xn t77 y4 : Int)) ∧ (∀ M81 : xMe, M81 = xw M77 y4 y3.toNat (y2 + r77) → (∃ k88 : Nat, k88 ≤ (n - k77) ∧ p_X13_below F k88 t77 x2 3 M81 (fun r88 t88 M88 => ((r88 ≠ 0 → p_L_randomRoad_100 F G Q K22 K143 (((n - k77) - k88)) x0 x1 x2 x3 x4 3 x2 1 2 y5 y5 y6 y7 t88 M88) ∧ (r88 = 0 → p_L_randomRoad_100 F G Q K22 K143 (((n - k77) - k88)) x0 x1 x2 x3 x4 20 x2 1 2 y5 y5 y6 y7 t88 M88)))))))
def p_L_randomRoad_53 (F : Nat) (G : xGx) (Q : Option Nat → xTh → xMe → Prop) (K22 : Nat → Nat → Nat → Nat → Nat → Int → xTh → xMe → Prop) (K143 : Nat → Nat → Nat → Nat → Nat → xTh → xMe → Prop) (n : Nat) (x0 : Nat) (x1 : Nat) (x2 : Nat) (x3 : Nat) (x4 : Int) (y0 : Int) (y1 : Nat) (y2 : Int) (y3 : Nat) (y4 : Nat) (y5 : Nat) (y6 : Nat) (t : xTh) (M : xMe) : Prop :=
    (∃ k53 : Nat, k53 ≤ n ∧ p_X13_below F k53 t y1 y0 M (fun r53 t53 M53 => ((0 : Int) ≤ y2 ∧ y2 < (xn t53 y3 : Int)) ∧ (∀ M56 : xMe, M56 = xw M53 y3 y2.toNat r53 → (∃ k63 : Nat, k63 ≤ (n - k53) ∧ p_X13_below F k63 t53 x2 3 M56 (fun r63 t63 M63 => ((r63 ≠ 0 → p_L_randomRoad_77 F G Q K22 K143 (((n - k53) - k63)) x0 x1 x2 x3 x4 20 x2 1 1 y4 y4 y5 y6 t63 M63) ∧ (r63 = 0 → p_L_randomRoad_77 F G Q K22 K143 (((n - k53) - k63)) x0 x1 x2 x3 x4 999 x2 1 1 y4 y4 y5 y6 t63 M63)))))))
def p_L_randomRoad_22 (F : Nat) (G : xGx) (Q : Option Nat → xTh → xMe → Prop) (K143 : Nat → Nat → Nat → Nat → Nat → xTh → xMe → Prop) : Nat → Nat → Nat → Nat → Nat → Nat → Int → xTh → xMe → Prop
  | 0, _, _, _, _, _, _, _, _ => False
  | k + 1, n, x0, x1, x2, x3, x4, t, M =>
    ((x4 ≤ 0 → K143 n x0 x1 x2 x3 t M) ∧ (0 < x4 → (∃ b29 : Nat, xr t x3 1 = some b29 ∧ xk t b29 = 17 ∧ (1 ≤ n) ∧ (∀ (a33 : Nat) (t33 : xTh) (M33 : xMe), a33 = xz t → t33 = xnw t 14 3 → M33 = xw0 M a33 → (∃ k40 : Nat, k40 ≤ (n - 1) ∧ p_X13_below F k40 t33 x2 3 M33 (fun r40 t40 M40 => ((r40 ≠ 0 → p_L_randomRoad_53 F G Q (p_L_randomRoad_22 F G Q K143 k) K143 (((n - 1) - k40)) x0 x1 x2 x3 x4 6 x2 0 a33 a33 b29 x3 t40 M40) ∧ (r40 = 0 → p_L_randomRoad_53 F G Q (p_L_randomRoad_22 F G Q K143 k) K143 (((n - 1) - k40)) x0 x1 x2 x3 x4 100 x2 0 a33 a33 b29 x3 t40 M40))))))))
def p_L_randomRoad (F : Nat) (G : xGx) (n : Nat) (tE : xTh) (x0 : Nat) (x1 : Nat) (x2 : Nat) (ME : xMe) (Q : Option Nat → xTh → xMe → Prop) : Prop :=
  (1 ≤ n) ∧ (∀ (a0 : Nat) (t0 : xTh) (M0 : xMe), a0 = xz tE → t0 = xnw tE 20 0 → M0 = xw0 ME a0 → (∃ k4 : Nat, k4 ≤ (n - 1) ∧ p_X14_init F k4 t0 a0 M0 (fun t4 M4 => (∃ k12 : Nat, k12 ≤ ((n - 1) - k4) ∧ p_L_write F G k12 t4 x0 x1 ((G.2.2.2.1 18)) M4 (fun t12 M12 => (∃ k17 : Nat, k17 ≤ (((n - 1) - k4) - k12) ∧ p_X13_below F k17 t12 x2 4 M12 (fun r17 t17 M17 => p_L_randomRoad_22 F G Q (p_L_randomRoad_143 F G Q) F (((((n - 1) - k4) - k12) - k17)) x0 x1 x2 a0 r17 t17 M17)))))))
set_option maxHeartbeats 8000000 in
set_option maxRecDepth 100000 in
theorem c_L_randomRoad {G : xGx} {tE : xTh} {ME : xMe} {F nE : Nat} {x0 : Nat} {x1 : Nat} {x2 : Nat} {Q : Option Nat → xTh → xMe → Prop} (hME : xMR ME) (hkx1 : xk tE x1 = 14) (hkx2 : xk tE x2 = 19)  (hp : p_L_randomRoad F G nE tE x0 x1 x2 ME Q) : xCt G yL_randomRoad cL_randomRoad 9 (some (.object "PacketTollLaw$Road")) 118 nE (64 * nE) [vr x0, vr x1, vr x2] tE ME (fun v t' M' => ∃ r, v = some (va_rf r) ∧ (∀ b, r = some b → xk t' b = 20) ∧ xMR M' ∧ xke tE t' ∧ Q r t' M') (fun _ _ _ => False) := by
  refine xCt_of (L0 := [vr x0, vr x1, vr x2, vU, vU, vU, vU, vU, vU]) (by decide +kernel) (Nat.le_of_ble_eq_true rfl) rfl ?_
  intro X hX hB
  unfold p_L_randomRoad at hp
  obtain ⟨hn0, hp⟩ := hp
  refine xJ_newE (ci := 20) hX hB hME dL_randomRoad_0 rfl (by decide) ft_X14 uw_X14 kl_L_123 is_X14 in_X14 rfl (by decide) (by omega) (by omega) (fun a0 t0 M0 ea0 et0 e0 hM0 hq0 hka0 => ?_)
  replace hp := hp a0 t0 M0 ea0 et0 e0
  refine xJ_dup hX dL_randomRoad_3 rfl ?_
  obtain ⟨k4, hn4, hp⟩ := hp
  refine xJ_callIN (As := []) hX hB dL_randomRoad_4 ln_L_125 im_X14_init rfl (c_X14_init hM0 hka0 hp) (by decide) rfl rfl rfl (Nat.le_of_ble_eq_true rfl) (by omega) (by omega) (fun v t4 M4 hv => ?_)
  clear hp
  obtain ⟨rfl, hM4, hq4, hp⟩ := hv
  dsimp only [Option.toList, List.cons_append, List.nil_append]
  refine xJ_astore_n hX dL_randomRoad_7 (Nat.le_of_ble_eq_true rfl) rfl ?_
  dsimp only [List.set]
  refine xJ_aload_n hX dL_randomRoad_8 rfl ?_
  refine xJ_aload_n hX dL_randomRoad_9 rfl ?_
  refine xJ_ldcS 18 hX dL_randomRoad_10 (by decide +kernel) ?_
  obtain ⟨k12, hn12, hp⟩ := hp
  refine xJ_callS (As := [_, _, _]) hX hB dL_randomRoad_12 lk_L_114 sm_L_write (c_L_write hM4 (xke_k hq4 (xke_k hq0 hkx1 (by decide)) (by decide)) hp) (by decide) rfl rfl rfl (Nat.le_of_ble_eq_true rfl) (by omega) (by omega) (fun v t12 M12 hv => ?_) (fun _ _ _ q => q.elim)
  clear hp
  obtain ⟨rfl, hM12, hq12, hp⟩ := hv
  dsimp only [Option.toList, List.cons_append, List.nil_append]
  refine xJ_aload_n hX dL_randomRoad_15 rfl ?_
  refine xJ_iconst hX dL_randomRoad_16 ?_
  obtain ⟨k17, hn17, hp⟩ := hp
  refine xJ_callV (As := [_]) hX hB dL_randomRoad_17 lk_L_128 im_X13_below se_X13_below rfl (by decide) (xke_k hq12 (xke_k hq4 (xke_k hq0 hkx2 (by decide)) (by decide)) (by decide)) (c_X13_below hM12 (xke_k hq12 (xke_k hq4 (xke_k hq0 hkx2 (by decide)) (by decide)) (by decide)) ⟨by decide, by decide⟩ hp) (by decide) rfl rfl rfl (Nat.le_of_ble_eq_true rfl) (by omega) (by omega) (fun v t17 M17 hv => ?_) (fun _ _ _ q => q.elim)
  clear hp
  obtain ⟨r17, rfl, h17, hM17, hq17, hp⟩ := hv
  dsimp only [Option.toList, List.cons_append, List.nil_append]
  refine xJ_istore hX dL_randomRoad_20 (Nat.le_of_ble_eq_true rfl) rfl ?_
  dsimp only [List.set]
  have l143 : ∀ (c s n : Nat) (x0 : Nat) (x1 : Nat) (x2 : Nat) (x3 : Nat) (t : xTh) (M : xMe) (hc : c + n ≤ nE) (hs : s + 64 * n ≤ 64 * nE) (hM : xMR M) (hqE : xke tE t) (hkx1 : xk t x1 = 14) (hkx2 : xk t x2 = 19) (hkx3 : xk t x3 = 20) (hp : p_L_randomRoad_143 F G Q n x0 x1 x2 x3 t M), xJ X c s t M 143 [vr x0, vr x1, vr x2, vr x3, vU, vU, vU, vU, vU] [] := by
    intro c s n x0 x1 x2 x3 t M hc hs hM hqE hkx1 hkx2 hkx3 hp
    unfold p_L_randomRoad_143 at hp
    refine xJ_aload_n hX dL_randomRoad_143 rfl ?_
    obtain ⟨b144, e144, hkb144, hp⟩ := hp
    refine xJ_getR (b := b144) hX dL_randomRoad_144 fd_L_133 rfl hkx3 e144 ?_
    refine xJ_alen hX dL_randomRoad_147 (by rw [hkb144]; decide) (by rw [hkb144]; decide) ?_
    obtain ⟨h147, hp⟩ := hp
    refine xJ_istore hX dL_randomRoad_148 (Nat.le_of_ble_eq_true rfl) rfl ?_
    dsimp only [List.set]
    replace hp := hp _ rfl
    refine xJ_iload hX dL_randomRoad_150 rfl ?_
    have l164 : ∀ (c s n : Nat) (x0 : Nat) (x1 : Nat) (x2 : Nat) (x3 : Nat) (x4 : Int) (y0 : Int) (t : xTh) (M : xMe) (hc : c + n ≤ nE) (hs : s + 64 * n ≤ 64 * nE) (hM : xMR M) (hqE : xke tE t) (hkx1 : xk t x1 = 14) (hkx2 : xk t x2 = 19) (hkx3 : xk t x3 = 20) (hx4 : xR x4) (hy0 : xR y0) (hp : p_L_randomRoad_164 F G Q n x0 x1 x2 x3 x4 y0 t M), xJ X c s t M 164 [vr x0, vr x1, vr x2, vr x3, vi x4, vU, vU, vU, vU] [vi y0] := by
      intro c s n x0 x1 x2 x3 x4 y0 t M hc hs hM hqE hkx1 hkx2 hkx3 hx4 hy0 hp
      unfold p_L_randomRoad_164 at hp
      refine xJ_istore hX dL_randomRoad_164 (Nat.le_of_ble_eq_true rfl) rfl ?_
      dsimp only [List.set]
      have l351 : ∀ (c s n : Nat) (x0 : Nat) (x1 : Nat) (x2 : Nat) (x3 : Nat) (x4 : Int) (t : xTh) (M : xMe) (hc : c + n ≤ nE) (hs : s + 64 * n ≤ 64 * nE) (hM : xMR M) (hqE : xke tE t) (hkx1 : xk t x1 = 14) (hkx2 : xk t x2 = 19) (hkx3 : xk t x3 = 20) (hx4 : xR x4) (hp : p_L_randomRoad_351 F G Q n x0 x1 x2 x3 x4 t M), xJ X c s t M 351 [vr x0, vr x1, vr x2, vr x3, vi x4, vU, vU, vU, vU] [] := by
        intro c s n x0 x1 x2 x3 x4 t M hc hs hM hqE hkx1 hkx2 hkx3 hx4 hp
        unfold p_L_randomRoad_351 at hp
        refine xJ_aload_n hX dL_randomRoad_351 rfl ?_
        obtain ⟨b352, e352, hkb352, hp⟩ := hp
        refine xJ_getR (b := b352) hX dL_randomRoad_352 fd_L_151 rfl hkx3 e352 ?_
        refine xJ_alen hX dL_randomRoad_355 (by rw [hkb352]; decide) (by rw [hkb352]; decide) ?_
        obtain ⟨h355, hp⟩ := hp
        refine xJ_istore hX dL_randomRoad_356 (Nat.le_of_ble_eq_true rfl) rfl ?_
        dsimp only [List.set]
        replace hp := hp _ rfl
        refine xJ_iload hX dL_randomRoad_358 rfl ?_
        have l373 : ∀ (c s n : Nat) (x0 : Nat) (x1 : Nat) (x2 : Nat) (x3 : Nat) (x4 : Int) (x5 : Int) (y0 : Int) (t : xTh) (M : xMe) (hc : c + n ≤ nE) (hs : s + 64 * n ≤ 64 * nE) (hM : xMR M) (hqE : xke tE t) (hkx1 : xk t x1 = 14) (hkx2 : xk t x2 = 19) (hkx3 : xk t x3 = 20) (hx4 : xR x4) (hx5 : xR x5) (hy0 : xR y0) (hp : p_L_randomRoad_373 F G Q n x0 x1 x2 x3 x4 x5 y0 t M), xJ X c s t M 373 [vr x0, vr x1, vr x2, vr x3, vi x4, vi x5, vU, vU, vU] [vi y0] := by
          intro c s n x0 x1 x2 x3 x4 x5 y0 t M hc hs hM hqE hkx1 hkx2 hkx3 hx4 hx5 hy0 hp
          unfold p_L_randomRoad_373 at hp
          refine xJ_istore hX dL_randomRoad_373 (Nat.le_of_ble_eq_true rfl) rfl ?_
          dsimp only [List.set]
          have l530 : ∀ (c s n : Nat) (x0 : Nat) (x1 : Nat) (x2 : Nat) (x3 : Nat) (x4 : Int) (x5 : Int) (t : xTh) (M : xMe) (hc : c + n ≤ nE) (hs : s + 64 * n ≤ 64 * nE) (hM : xMR M) (hqE : xke tE t) (hkx1 : xk t x1 = 14) (hkx2 : xk t x2 = 19) (hkx3 : xk t x3 = 20) (hx4 : xR x4) (hx5 : xR x5) (hp : p_L_randomRoad_530 F G Q n x0 x1 x2 x3 x4 x5 t M), xJ X c s t M 530 [vr x0, vr x1, vr x2, vr x3, vi x4, vi x5, vU, vU, vU] [] := by
            intro c s n x0 x1 x2 x3 x4 x5 t M hc hs hM hqE hkx1 hkx2 hkx3 hx4 hx5 hp
            unfold p_L_randomRoad_530 at hp
            refine xJ_iload hX dL_randomRoad_530 rfl ?_
            have l545 : ∀ (c s n : Nat) (x0 : Nat) (x1 : Nat) (x2 : Nat) (x3 : Nat) (x4 : Int) (x5 : Int) (y0 : Int) (t : xTh) (M : xMe) (hc : c + n ≤ nE) (hs : s + 64 * n ≤ 64 * nE) (hM : xMR M) (hqE : xke tE t) (hkx1 : xk t x1 = 14) (hkx2 : xk t x2 = 19) (hkx3 : xk t x3 = 20) (hx4 : xR x4) (hx5 : xR x5) (hy0 : xR y0) (hp : p_L_randomRoad_545 F G Q n x0 x1 x2 x3 x4 x5 y0 t M), xJ X c s t M 545 [vr x0, vr x1, vr x2, vr x3, vi x4, vi x5, vU, vU, vU] [vi y0] := by
              intro c s n x0 x1 x2 x3 x4 x5 y0 t M hc hs hM hqE hkx1 hkx2 hkx3 hx4 hx5 hy0 hp
              unfold p_L_randomRoad_545 at hp
              refine xJ_istore hX dL_randomRoad_545 (Nat.le_of_ble_eq_true rfl) rfl ?_
              dsimp only [List.set]
              have l659 : ∀ (c s n : Nat) (x0 : Nat) (x1 : Nat) (x2 : Nat) (x3 : Nat) (x4 : Int) (x5 : Int) (t : xTh) (M : xMe) (hc : c + n ≤ nE) (hs : s + 64 * n ≤ 64 * nE) (hM : xMR M) (hqE : xke tE t) (hkx1 : xk t x1 = 14) (hkx2 : xk t x2 = 19) (hkx3 : xk t x3 = 20) (hx4 : xR x4) (hx5 : xR x5) (hp : p_L_randomRoad_659 F G Q n x0 x1 x2 x3 x4 x5 t M), xJ X c s t M 659 [vr x0, vr x1, vr x2, vr x3, vi x4, vi x5, vU, vU, vU] [] := by
                intro c s n x0 x1 x2 x3 x4 x5 t M hc hs hM hqE hkx1 hkx2 hkx3 hx4 hx5 hp
                unfold p_L_randomRoad_659 at hp
                refine xJ_aload_n hX dL_randomRoad_659 rfl ?_
                refine xJ_iconst hX dL_randomRoad_660 ?_
                obtain ⟨k661, hn661, hp⟩ := hp
                refine xJ_callV (As := [_]) hX hB dL_randomRoad_661 lk_L_128 im_X13_below se_X13_below rfl (by decide) hkx2 (c_X13_below hM hkx2 ⟨by decide, by decide⟩ hp) (by decide) rfl rfl rfl (Nat.le_of_ble_eq_true rfl) (by omega) (by omega) (fun v t661 M661 hv => ?_) (fun _ _ _ q => q.elim)
                clear hp
                obtain ⟨r661, rfl, h661, hM661, hq661, hp⟩ := hv
                dsimp only [Option.toList, List.cons_append, List.nil_append]
                have l701 : ∀ (c s n : Nat) (x0 : Nat) (x1 : Nat) (x2 : Nat) (x3 : Nat) (x4 : Int) (x5 : Int) (t : xTh) (M : xMe) (hc : c + n ≤ nE) (hs : s + 64 * n ≤ 64 * nE) (hM : xMR M) (hqE : xke tE t) (hkx1 : xk t x1 = 14) (hkx2 : xk t x2 = 19) (hkx3 : xk t x3 = 20) (hx4 : xR x4) (hx5 : xR x5) (hp : p_L_randomRoad_701 F G Q n x0 x1 x2 x3 x4 x5 t M), xJ X c s t M 701 [vr x0, vr x1, vr x2, vr x3, vi x4, vi x5, vU, vU, vU] [] := by
                  intro c s n x0 x1 x2 x3 x4 x5 t M hc hs hM hqE hkx1 hkx2 hkx3 hx4 hx5 hp
                  unfold p_L_randomRoad_701 at hp
                  refine xJ_aload_n hX dL_randomRoad_701 rfl ?_
                  refine xJ_iconst hX dL_randomRoad_702 ?_
                  obtain ⟨k703, hn703, hp⟩ := hp
                  refine xJ_callV (As := [_]) hX hB dL_randomRoad_703 lk_L_128 im_X13_below se_X13_below rfl (by decide) hkx2 (c_X13_below hM hkx2 ⟨by decide, by decide⟩ hp) (by decide) rfl rfl rfl (Nat.le_of_ble_eq_true rfl) (by omega) (by omega) (fun v t703 M703 hv => ?_) (fun _ _ _ q => q.elim)
                  clear hp
                  obtain ⟨r703, rfl, h703, hM703, hq703, hp⟩ := hv
                  dsimp only [Option.toList, List.cons_append, List.nil_append]
                  have l762 : ∀ (c s n : Nat) (x0 : Nat) (x1 : Nat) (x2 : Nat) (x3 : Nat) (x4 : Int) (x5 : Int) (t : xTh) (M : xMe) (hc : c + n ≤ nE) (hs : s + 64 * n ≤ 64 * nE) (hM : xMR M) (hqE : xke tE t) (hkx1 : xk t x1 = 14) (hkx2 : xk t x2 = 19) (hkx3 : xk t x3 = 20) (hx4 : xR x4) (hx5 : xR x5) (hp : p_L_randomRoad_762 F G Q n x0 x1 x2 x3 x4 x5 t M), xJ X c s t M 762 [vr x0, vr x1, vr x2, vr x3, vi x4, vi x5, vU, vU, vU] [] := by
                    intro c s n x0 x1 x2 x3 x4 x5 t M hc hs hM hqE hkx1 hkx2 hkx3 hx4 hx5 hp
                    unfold p_L_randomRoad_762 at hp
                    refine xJ_aload_n hX dL_randomRoad_762 rfl ?_
                    refine xJ_iconst hX dL_randomRoad_763 ?_
                    obtain ⟨k764, hn764, hp⟩ := hp
                    refine xJ_callV (As := [_]) hX hB dL_randomRoad_764 lk_L_128 im_X13_below se_X13_below rfl (by decide) hkx2 (c_X13_below hM hkx2 ⟨by decide, by decide⟩ hp) (by decide) rfl rfl rfl (Nat.le_of_ble_eq_true rfl) (by omega) (by omega) (fun v t764 M764 hv => ?_) (fun _ _ _ q => q.elim)
                    clear hp
                    obtain ⟨r764, rfl, h764, hM764, hq764, hp⟩ := hv
                    dsimp only [Option.toList, List.cons_append, List.nil_append]
                    have l810 : ∀ (c s n : Nat) (x0 : Nat) (x1 : Nat) (x3 : Nat) (x4 : Int) (x5 : Int) (t : xTh) (M : xMe) (hc : c + n ≤ nE) (hs : s + 64 * n ≤ 64 * nE) (hM : xMR M) (hqE : xke tE t) (hkx1 : xk t x1 = 14) (hkx3 : xk t x3 = 20) (hx4 : xR x4) (hx5 : xR x5) (hp : p_L_randomRoad_810 F G Q n x0 x1 x3 x4 x5 t M), xJ X c s t M 810 [vr x0, vr x1, vU, vr x3, vi x4, vi x5, vU, vU, vU] [] := by
                      intro c s n x0 x1 x3 x4 x5 t M hc hs hM hqE hkx1 hkx3 hx4 hx5 hp
                      unfold p_L_randomRoad_810 at hp
                      refine xJ_iconst hX dL_randomRoad_810 ?_
                      refine xJ_istore hX dL_randomRoad_811 (Nat.le_of_ble_eq_true rfl) rfl ?_
                      dsimp only [List.set]
                      have l861 : ∀ (c s n : Nat) (x0 : Nat) (x1 : Nat) (x3 : Nat) (t : xTh) (M : xMe) (hc : c + n ≤ nE) (hs : s + 64 * n ≤ 64 * nE) (hM : xMR M) (hqE : xke tE t) (hkx1 : xk t x1 = 14) (hkx3 : xk t x3 = 20) (hp : p_L_randomRoad_861 F G Q n x0 x1 x3 t M), xJ X c s t M 861 [vr x0, vr x1, vU, vr x3, vU, vU, vU, vU, vU] [] := by
                        intro c s n x0 x1 x3 t M hc hs hM hqE hkx1 hkx3 hp
                        unfold p_L_randomRoad_861 at hp
                        refine xJ_aload_n hX dL_randomRoad_861 rfl ?_
                        refine xJ_aload_n hX dL_randomRoad_862 rfl ?_
                        obtain ⟨k863, hn863, hp⟩ := hp
                        refine xJ_callS (As := [_, _]) hX hB dL_randomRoad_863 lk_L_197 sm_L_loadText (c_L_loadText hM hkx1 hp) (by decide) rfl rfl rfl (Nat.le_of_ble_eq_true rfl) (by omega) (by omega) (fun v t863 M863 hv => ?_) (fun _ _ _ q => q.elim)
                        clear hp
                        obtain ⟨r863, rfl, h863, hM863, hq863, hp⟩ := hv
                        dsimp only [Option.toList, List.cons_append, List.nil_append]
                        refine xJ_aload_n hX dL_randomRoad_866 rfl ?_
                        obtain ⟨b867, e867, hkb867, hp⟩ := hp
                        refine xJ_getR (b := b867) hX dL_randomRoad_867 fd_L_157 rfl (xke_k hq863 hkx3 (by decide)) e867 ?_
                        refine xJ_alen hX dL_randomRoad_870 (by rw [hkb867]; decide) (by rw [hkb867]; decide) ?_
                        obtain ⟨h870, hp⟩ := hp
                        refine xJ_icmp_ne hX dL_randomRoad_871 (tgt := 878) (by decide) h863 h870 (fun c871 => ?_) (fun c871 => ?_)
                        · replace hp := hp.1 c871
                          refine xJ_null hX dL_randomRoad_878 ?_
                          exact xJ_aretO (x := none) hX hB dL_randomRoad_879 (Or.inl ⟨_, rfl⟩) (by omega) (by omega) ⟨_, rfl, (fun b e => by cases e), hM863, (xke_trans hqE hq863), hp⟩
                        · replace hp := hp.2 c871
                          refine xJ_aload_n hX dL_randomRoad_874 rfl ?_
                          refine xJ_goto hX dL_randomRoad_875 (tgt := 879) (by decide) ?_
                          exact xJ_aretO (x := (some x3)) hX hB dL_randomRoad_879 (Or.inl ⟨_, rfl⟩) (by omega) (by omega) ⟨_, rfl, (fun b e => by cases e; exact (xke_k hq863 hkx3 (by decide))), hM863, (xke_trans hqE hq863), hp⟩
                      have l813 : ∀ (k813 : Nat) (c s n : Nat) (x0 : Nat) (x1 : Nat) (x3 : Nat) (x4 : Int) (x5 : Int) (x6 : Int) (t : xTh) (M : xMe) (hc : c + n ≤ nE) (hs : s + 64 * n ≤ 64 * nE) (hM : xMR M) (hqE : xke tE t) (hkx1 : xk t x1 = 14) (hkx3 : xk t x3 = 20) (hx4 : xR x4) (hx5 : xR x5) (hx6 : xR x6) (hp : p_L_randomRoad_813 F G Q (p_L_randomRoad_861 F G Q) k813 n x0 x1 x3 x4 x5 x6 t M), xJ X c s t M 813 [vr x0, vr x1, vU, vr x3, vi x4, vi x5, vi x6, vU, vU] [] := by
                        intro k813
                        induction k813 with
                        | zero => intro c s n x0 x1 x3 x4 x5 x6 t M hc hs hM hqE hkx1 hkx3 hx4 hx5 hx6 hp; exact hp.elim
                        | succ k813 ih813 =>
                          intro c s n x0 x1 x3 x4 x5 x6 t M hc hs hM hqE hkx1 hkx3 hx4 hx5 hx6 hp
                          unfold p_L_randomRoad_813 at hp
                          refine xJ_iload hX dL_randomRoad_813 rfl ?_
                          refine xJ_iload hX dL_randomRoad_815 rfl ?_
                          refine xJ_icmp_ge hX dL_randomRoad_817 (tgt := 861) (by decide) hx6 hx4 (fun c817 => ?_) (fun c817 => ?_)
                          · replace hp := hp.1 c817
                            refine xJ_fg 4 ?_
                            dsimp only [List.set]
                            refine xJ_fg 5 ?_
                            dsimp only [List.set]
                            refine xJ_fg 6 ?_
                            dsimp only [List.set]
                            exact l861 _ _ _ _ _ _ _ _ (by omega) (by omega) hM hqE hkx1 hkx3 hp
                          · replace hp := hp.2 c817
                            refine xJ_iconst hX dL_randomRoad_820 ?_
                            refine xJ_istore hX dL_randomRoad_821 (Nat.le_of_ble_eq_true rfl) rfl ?_
                            dsimp only [List.set]
                            have l855 : ∀ (c s n : Nat) (x0 : Nat) (x1 : Nat) (x3 : Nat) (x4 : Int) (x5 : Int) (x6 : Int) (t : xTh) (M : xMe) (hc : c + n ≤ nE) (hs : s + 64 * n ≤ 64 * nE) (hM : xMR M) (hqE : xke tE t) (hkx1 : xk t x1 = 14) (hkx3 : xk t x3 = 20) (hx4 : xR x4) (hx5 : xR x5) (hx6 : xR x6) (hp : p_L_randomRoad_855 F G Q (p_L_randomRoad_813 F G Q (p_L_randomRoad_861 F G Q) k813) (p_L_randomRoad_861 F G Q) n x0 x1 x3 x4 x5 x6 t M), xJ X c s t M 855 [vr x0, vr x1, vU, vr x3, vi x4, vi x5, vi x6, vU, vU] [] := by
                              intro c s n x0 x1 x3 x4 x5 x6 t M hc hs hM hqE hkx1 hkx3 hx4 hx5 hx6 hp
                              unfold p_L_randomRoad_855 at hp
                              refine xJ_iinc hX dL_randomRoad_855 rfl rfl ?_
                              dsimp only [List.set]
                              obtain ⟨h855, hp⟩ := hp
                              refine xJ_goto hX dL_randomRoad_858 (tgt := 813) (by decide) ?_
                              exact ih813 _ _ _ _ _ _ _ _ _ _ _ (by omega) (by omega) hM hqE hkx1 hkx3 hx4 hx5 h855 hp
                            have l823 : ∀ (k823 : Nat) (c s n : Nat) (x0 : Nat) (x1 : Nat) (x3 : Nat) (x4 : Int) (x5 : Int) (x6 : Int) (x7 : Int) (t : xTh) (M : xMe) (hc : c + n ≤ nE) (hs : s + 64 * n ≤ 64 * nE) (hM : xMR M) (hqE : xke tE t) (hkx1 : xk t x1 = 14) (hkx3 : xk t x3 = 20) (hx4 : xR x4) (hx5 : xR x5) (hx6 : xR x6) (hx7 : xR x7) (hp : p_L_randomRoad_823 F G Q (p_L_randomRoad_813 F G Q (p_L_randomRoad_861 F G Q) k813) (p_L_randomRoad_855 F G Q (p_L_randomRoad_813 F G Q (p_L_randomRoad_861 F G Q) k813) (p_L_randomRoad_861 F G Q)) (p_L_randomRoad_861 F G Q) k823 n x0 x1 x3 x4 x5 x6 x7 t M), xJ X c s t M 823 [vr x0, vr x1, vU, vr x3, vi x4, vi x5, vi x6, vi x7, vU] [] := by
                              intro k823
                              induction k823 with
                              | zero => intro c s n x0 x1 x3 x4 x5 x6 x7 t M hc hs hM hqE hkx1 hkx3 hx4 hx5 hx6 hx7 hp; exact hp.elim
                              | succ k823 ih823 =>
                                intro c s n x0 x1 x3 x4 x5 x6 x7 t M hc hs hM hqE hkx1 hkx3 hx4 hx5 hx6 hx7 hp
                                unfold p_L_randomRoad_823 at hp
                                refine xJ_iload hX dL_randomRoad_823 rfl ?_
                                refine xJ_iload hX dL_randomRoad_825 rfl ?_
                                refine xJ_icmp_ge hX dL_randomRoad_827 (tgt := 855) (by decide) hx7 hx5 (fun c827 => ?_) (fun c827 => ?_)
                                · replace hp := hp.1 c827
                                  refine xJ_fg 7 ?_
                                  dsimp only [List.set]
                                  exact l855 _ _ _ _ _ _ _ _ _ _ _ (by omega) (by omega) hM hqE hkx1 hkx3 hx4 hx5 hx6 hp
                                · replace hp := hp.2 c827
                                  refine xJ_aload_n hX dL_randomRoad_830 rfl ?_
                                  obtain ⟨b831, e831, hkb831, hp⟩ := hp
                                  refine xJ_getR (b := b831) hX dL_randomRoad_831 fd_L_195 rfl hkx3 e831 ?_
                                  refine xJ_iload hX dL_randomRoad_834 rfl ?_
                                  obtain ⟨h836, hp⟩ := hp
                                  obtain ⟨b836, e836, hkb836, hp⟩ := hp
                                  refine xJ_aaldOb hX dL_randomRoad_836 hkb831 h836.1 h836.2 e836 ?_
                                  refine xJ_iload hX dL_randomRoad_837 rfl ?_
                                  refine xJ_aload_n hX dL_randomRoad_839 rfl ?_
                                  obtain ⟨b840, e840, hkb840, hp⟩ := hp
                                  refine xJ_getR (b := b840) hX dL_randomRoad_840 fd_L_133 rfl hkx3 e840 ?_
                                  refine xJ_iload hX dL_randomRoad_843 rfl ?_
                                  obtain ⟨h845, hp⟩ := hp
                                  obtain ⟨b845, e845, hkb845, hp⟩ := hp
                                  refine xJ_aaldOb hX dL_randomRoad_845 hkb840 h845.1 h845.2 e845 ?_
                                  refine xJ_iconst hX dL_randomRoad_846 ?_
                                  obtain ⟨h847, hp⟩ := hp
                                  refine xJ_iald hX dL_randomRoad_847 hkb845 h847.1 h847.2 ?_
                                  obtain ⟨h848, hp⟩ := hp
                                  refine xJ_iastM hX dL_randomRoad_848 hkb836 h848.1 h848.2 hM (hM _ _) (fun M848 e848 hM848 => ?_)
                                  replace hp := hp M848 e848
                                  refine xJ_iinc hX dL_randomRoad_849 rfl rfl ?_
                                  dsimp only [List.set]
                                  obtain ⟨h849, hp⟩ := hp
                                  refine xJ_goto hX dL_randomRoad_852 (tgt := 823) (by decide) ?_
                                  exact ih823 _ _ _ _ _ _ _ _ _ _ _ _ (by omega) (by omega) hM848 hqE hkx1 hkx3 hx4 hx5 hx6 h849 hp
                            exact l823 F _ _ _ _ _ _ _ _ _ _ _ _ (by omega) (by omega) hM hqE hkx1 hkx3 hx4 hx5 hx6 ⟨by decide, by decide⟩ hp
                      exact l813 F _ _ _ _ _ _ _ _ _ _ _ (by omega) (by omega) hM hqE hkx1 hkx3 hx4 hx5 ⟨by decide, by decide⟩ hp
                    refine xJ_if_ne hX dL_randomRoad_767 (tgt := 810) (by decide) h764 (fun c767 => ?_) (fun c767 => ?_)
                    · replace hp := hp.1 c767
                      refine xJ_fg 2 ?_
                      dsimp only [List.set]
                      exact l810 _ _ _ _ _ _ _ _ _ _ (by omega) (by omega) hM764 (xke_trans hqE hq764) (xke_k hq764 hkx1 (by decide)) (xke_k hq764 hkx3 (by decide)) hx4 hx5 hp
                    · replace hp := hp.2 c767
                      refine xJ_aload_n hX dL_randomRoad_770 rfl ?_
                      refine xJ_aload_n hX dL_randomRoad_771 rfl ?_
                      refine xJ_aload_n hX dL_randomRoad_772 rfl ?_
                      refine xJ_iconst hX dL_randomRoad_773 ?_
                      obtain ⟨k774, hn774, hp⟩ := hp
                      refine xJ_callV (As := [_]) hX hB dL_randomRoad_774 lk_L_128 im_X13_below se_X13_below rfl (by decide) (xke_k hq764 hkx2 (by decide)) (c_X13_below hM764 (xke_k hq764 hkx2 (by decide)) ⟨by decide, by decide⟩ hp) (by decide) rfl rfl rfl (Nat.le_of_ble_eq_true rfl) (by omega) (by omega) (fun v t774 M774 hv => ?_) (fun _ _ _ q => q.elim)
                      clear hp
                      obtain ⟨r774, rfl, h774, hM774, hq774, hp⟩ := hv
                      dsimp only [Option.toList, List.cons_append, List.nil_append]
                      obtain ⟨k777, hn777, hp⟩ := hp
                      refine xJ_callS (As := [_, _]) hX hB dL_randomRoad_777 lk_L_177 sm_X12_random (c_X12_randomR 3 hM774 (xke_k hq774 (xke_k hq764 hkx2 (by decide)) (by decide)) h774 hp) (by decide) rfl rfl rfl (Nat.le_of_ble_eq_true rfl) (by omega) (by omega) (fun v t777 M777 hv => ?_) (fun _ _ _ q => q.elim)
                      clear hp
                      obtain ⟨r777, rfl, hk777, hM777, hq777, hp⟩ := hv
                      dsimp only [Option.toList, List.cons_append, List.nil_append]
                      refine xJ_putRE (x := (some r777)) hX dL_randomRoad_780 fd_L_183 ft_X14 rfl rfl rfl rfl (xke_k hq777 (xke_k hq774 (xke_k hq764 hkx3 (by decide)) (by decide)) (by decide)) (fun t780 et780 hq780 => ?_)
                      replace hp := hp t780 et780
                      refine xJ_aload_n hX dL_randomRoad_783 rfl ?_
                      refine xJ_aload_n hX dL_randomRoad_784 rfl ?_
                      refine xJ_ldcS 22 hX dL_randomRoad_785 (by decide +kernel) ?_
                      obtain ⟨k787, hn787, hp⟩ := hp
                      refine xJ_callS (As := [_, _, _]) hX hB dL_randomRoad_787 lk_L_114 sm_L_write (c_L_write hM777 (xke_k hq780 (xke_k hq777 (xke_k hq774 (xke_k hq764 hkx1 (by decide)) (by decide)) (by decide)) (by decide)) hp) (by decide) rfl rfl rfl (Nat.le_of_ble_eq_true rfl) (by omega) (by omega) (fun v t787 M787 hv => ?_) (fun _ _ _ q => q.elim)
                      clear hp
                      obtain ⟨rfl, hM787, hq787, hp⟩ := hv
                      dsimp only [Option.toList, List.cons_append, List.nil_append]
                      refine xJ_aload_n hX dL_randomRoad_790 rfl ?_
                      refine xJ_aload_n hX dL_randomRoad_791 rfl ?_
                      refine xJ_aload_n hX dL_randomRoad_792 rfl ?_
                      refine xJ_getO hX dL_randomRoad_793 fd_L_183 rfl (xke_k hq787 (xke_k hq780 (xke_k hq777 (xke_k hq774 (xke_k hq764 hkx3 (by decide)) (by decide)) (by decide)) (by decide)) (by decide)) ?_
                      obtain ⟨hk793, hp⟩ := hp
                      refine xJ_iconst hX dL_randomRoad_796 ?_
                      obtain ⟨bo797, eo797, hp⟩ := hp
                      have hkbo797 := hk793 bo797 eo797
                      rw [eo797]
                      obtain ⟨k797, hn797, hp⟩ := hp
                      refine xJ_callV (As := [_]) hX hB dL_randomRoad_797 lk_L_189 im_X12_text se_X12_text rfl (by decide) hkbo797 (c_X12_textR 3 hM787 hkbo797 ⟨by decide, by decide⟩ hp) (by decide) rfl rfl rfl (Nat.le_of_ble_eq_true rfl) (by omega) (by omega) (fun v t797 M797 hv => ?_) (fun _ _ _ q => q.elim)
                      clear hp
                      obtain ⟨r797, rfl, hM797, hq797, hp⟩ := hv
                      dsimp only [Option.toList, List.cons_append, List.nil_append]
                      obtain ⟨k800, hn800, hp⟩ := hp
                      refine xJ_callS (As := [_, _, _]) hX hB dL_randomRoad_800 lk_L_114 sm_L_write (c_L_write hM797 (xke_k hq797 (xke_k hq787 (xke_k hq780 (xke_k hq777 (xke_k hq774 (xke_k hq764 hkx1 (by decide)) (by decide)) (by decide)) (by decide)) (by decide)) (by decide)) hp) (by decide) rfl rfl rfl (Nat.le_of_ble_eq_true rfl) (by omega) (by omega) (fun v t800 M800 hv => ?_) (fun _ _ _ q => q.elim)
                      clear hp
                      obtain ⟨rfl, hM800, hq800, hp⟩ := hv
                      dsimp only [Option.toList, List.cons_append, List.nil_append]
                      refine xJ_aload_n hX dL_randomRoad_803 rfl ?_
                      refine xJ_aload_n hX dL_randomRoad_804 rfl ?_
                      refine xJ_ldcS 30 hX dL_randomRoad_805 (by decide +kernel) ?_
                      obtain ⟨k807, hn807, hp⟩ := hp
                      refine xJ_callS (As := [_, _, _]) hX hB dL_randomRoad_807 lk_L_114 sm_L_write (c_L_write hM800 (xke_k hq800 (xke_k hq797 (xke_k hq787 (xke_k hq780 (xke_k hq777 (xke_k hq774 (xke_k hq764 hkx1 (by decide)) (by decide)) (by decide)) (by decide)) (by decide)) (by decide)) (by decide)) hp) (by decide) rfl rfl rfl (Nat.le_of_ble_eq_true rfl) (by omega) (by omega) (fun v t807 M807 hv => ?_) (fun _ _ _ q => q.elim)
                      clear hp
                      obtain ⟨rfl, hM807, hq807, hp⟩ := hv
                      dsimp only [Option.toList, List.cons_append, List.nil_append]
                      refine xJ_fg 2 ?_
                      dsimp only [List.set]
                      exact l810 _ _ _ _ _ _ _ _ _ _ (by omega) (by omega) hM807 (xke_trans (xke_trans (xke_trans (xke_trans (xke_trans (xke_trans (xke_trans (xke_trans hqE hq764) hq774) hq777) hq780) hq787) hq797) hq800) hq807) (xke_k hq807 (xke_k hq800 (xke_k hq797 (xke_k hq787 (xke_k hq780 (xke_k hq777 (xke_k hq774 (xke_k hq764 hkx1 (by decide)) (by decide)) (by decide)) (by decide)) (by decide)) (by decide)) (by decide)) (by decide)) (xke_k hq807 (xke_k hq800 (xke_k hq797 (xke_k hq787 (xke_k hq780 (xke_k hq777 (xke_k hq774 (xke_k hq764 hkx3 (by decide)) (by decide)) (by decide)) (by decide)) (by decide)) (by decide)) (by decide)) (by decide)) hx4 hx5 hp
                  refine xJ_if_ne hX dL_randomRoad_706 (tgt := 762) (by decide) h703 (fun c706 => ?_) (fun c706 => ?_)
                  · replace hp := hp.1 c706
                    exact l762 _ _ _ _ _ _ _ _ _ _ _ (by omega) (by omega) hM703 (xke_trans hqE hq703) (xke_k hq703 hkx1 (by decide)) (xke_k hq703 hkx2 (by decide)) (xke_k hq703 hkx3 (by decide)) hx4 hx5 hp
                  · replace hp := hp.2 c706
                    refine xJ_aload_n hX dL_randomRoad_709 rfl ?_
                    refine xJ_aload_n hX dL_randomRoad_710 rfl ?_
                    refine xJ_bipush hX dL_randomRoad_711 rfl ?_
                    obtain ⟨k713, hn713, hp⟩ := hp
                    refine xJ_callV (As := [_]) hX hB dL_randomRoad_713 lk_L_128 im_X13_below se_X13_below rfl (by decide) (xke_k hq703 hkx2 (by decide)) (c_X13_below hM703 (xke_k hq703 hkx2 (by decide)) ⟨by decide, by decide⟩ hp) (by decide) rfl rfl rfl (Nat.le_of_ble_eq_true rfl) (by omega) (by omega) (fun v t713 M713 hv => ?_) (fun _ _ _ q => q.elim)
                    clear hp
                    obtain ⟨r713, rfl, h713, hM713, hq713, hp⟩ := hv
                    dsimp only [Option.toList, List.cons_append, List.nil_append]
                    refine xJ_putIM hX dL_randomRoad_716 fd_L_170 ft_X14 rfl rfl rfl rfl (xke_k hq713 (xke_k hq703 hkx3 (by decide)) (by decide)) hM713 h713 (fun M716 e716 hM716 => ?_)
                    replace hp := hp M716 e716
                    refine xJ_aload_n hX dL_randomRoad_719 rfl ?_
                    refine xJ_iconst hX dL_randomRoad_720 ?_
                    refine xJ_aload_n hX dL_randomRoad_721 rfl ?_
                    refine xJ_bipush hX dL_randomRoad_722 rfl ?_
                    obtain ⟨k724, hn724, hp⟩ := hp
                    refine xJ_callV (As := [_]) hX hB dL_randomRoad_724 lk_L_128 im_X13_below se_X13_below rfl (by decide) (xke_k hq713 (xke_k hq703 hkx2 (by decide)) (by decide)) (c_X13_below hM716 (xke_k hq713 (xke_k hq703 hkx2 (by decide)) (by decide)) ⟨by decide, by decide⟩ hp) (by decide) rfl rfl rfl (Nat.le_of_ble_eq_true rfl) (by omega) (by omega) (fun v t724 M724 hv => ?_) (fun _ _ _ q => q.elim)
                    clear hp
                    obtain ⟨r724, rfl, h724, hM724, hq724, hp⟩ := hv
                    dsimp only [Option.toList, List.cons_append, List.nil_append]
                    refine xJ_iadd hX dL_randomRoad_727 ?_
                    obtain ⟨h727, hp⟩ := hp
                    refine xJ_putIM hX dL_randomRoad_728 fd_L_173 ft_X14 rfl rfl rfl rfl (xke_k hq724 (xke_k hq713 (xke_k hq703 hkx3 (by decide)) (by decide)) (by decide)) hM724 h727 (fun M728 e728 hM728 => ?_)
                    replace hp := hp M728 e728
                    refine xJ_aload_n hX dL_randomRoad_731 rfl ?_
                    refine xJ_aload_n hX dL_randomRoad_732 rfl ?_
                    refine xJ_ldcS 6 hX dL_randomRoad_733 (by decide +kernel) ?_
                    refine xJ_iconst hX dL_randomRoad_735 ?_
                    obtain ⟨hn736, hp⟩ := hp
                    refine xJ_newIE hX hB hM728 dL_randomRoad_736 ac_int (by decide) (by decide) (by omega) (by omega) (fun a736 t736 M736 ea736 et736 e736 hM736 hq736 hka736 => ?_)
                    replace hp := hp a736 t736 M736 ea736 et736 e736
                    refine xJ_dup hX dL_randomRoad_738 rfl ?_
                    refine xJ_iconst hX dL_randomRoad_739 ?_
                    refine xJ_aload_n hX dL_randomRoad_740 rfl ?_
                    refine xJ_getI hX dL_randomRoad_741 fd_L_170 rfl (xke_k hq736 (xke_k hq724 (xke_k hq713 (xke_k hq703 hkx3 (by decide)) (by decide)) (by decide)) (by decide)) ?_
                    obtain ⟨h744, hp⟩ := hp
                    refine xJ_iastM hX dL_randomRoad_744 hka736 h744.1 h744.2 hM736 (hM736 _ _) (fun M744 e744 hM744 => ?_)
                    replace hp := hp M744 e744
                    refine xJ_dup hX dL_randomRoad_745 rfl ?_
                    refine xJ_iconst hX dL_randomRoad_746 ?_
                    refine xJ_aload_n hX dL_randomRoad_747 rfl ?_
                    refine xJ_getI hX dL_randomRoad_748 fd_L_173 rfl (xke_k hq736 (xke_k hq724 (xke_k hq713 (xke_k hq703 hkx3 (by decide)) (by decide)) (by decide)) (by decide)) ?_
                    obtain ⟨h751, hp⟩ := hp
                    refine xJ_iastM hX dL_randomRoad_751 hka736 h751.1 h751.2 hM744 (hM744 _ _) (fun M751 e751 hM751 => ?_)
                    replace hp := hp M751 e751
                    obtain ⟨k752, hn752, hp⟩ := hp
                    refine xJ_callS (As := [_, _, _, _]) hX hB dL_randomRoad_752 lk_L_142 sm_L_writeNumbers (c_L_writeNumbers hM751 (xke_k hq736 (xke_k hq724 (xke_k hq713 (xke_k hq703 hkx1 (by decide)) (by decide)) (by decide)) (by decide)) hka736 hp) (by decide) rfl rfl rfl (Nat.le_of_ble_eq_true rfl) (by omega) (by omega) (fun v t752 M752 hv => ?_) (fun _ _ _ q => q.elim)
                    clear hp
                    obtain ⟨rfl, hM752, hq752, hp⟩ := hv
                    dsimp only [Option.toList, List.cons_append, List.nil_append]
                    refine xJ_aload_n hX dL_randomRoad_755 rfl ?_
                    refine xJ_aload_n hX dL_randomRoad_756 rfl ?_
                    refine xJ_ldcS 20 hX dL_randomRoad_757 (by decide +kernel) ?_
                    obtain ⟨k759, hn759, hp⟩ := hp
                    refine xJ_callS (As := [_, _, _]) hX hB dL_randomRoad_759 lk_L_114 sm_L_write (c_L_write hM752 (xke_k hq752 (xke_k hq736 (xke_k hq724 (xke_k hq713 (xke_k hq703 hkx1 (by decide)) (by decide)) (by decide)) (by decide)) (by decide)) hp) (by decide) rfl rfl rfl (Nat.le_of_ble_eq_true rfl) (by omega) (by omega) (fun v t759 M759 hv => ?_) (fun _ _ _ q => q.elim)
                    clear hp
                    obtain ⟨rfl, hM759, hq759, hp⟩ := hv
                    dsimp only [Option.toList, List.cons_append, List.nil_append]
                    exact l762 _ _ _ _ _ _ _ _ _ _ _ (by omega) (by omega) hM759 (xke_trans (xke_trans (xke_trans (xke_trans (xke_trans (xke_trans hqE hq703) hq713) hq724) hq736) hq752) hq759) (xke_k hq759 (xke_k hq752 (xke_k hq736 (xke_k hq724 (xke_k hq713 (xke_k hq703 hkx1 (by decide)) (by decide)) (by decide)) (by decide)) (by decide)) (by decide)) (xke_k hq759 (xke_k hq752 (xke_k hq736 (xke_k hq724 (xke_k hq713 (xke_k hq703 hkx2 (by decide)) (by decide)) (by decide)) (by decide)) (by decide)) (by decide)) (xke_k hq759 (xke_k hq752 (xke_k hq736 (xke_k hq724 (xke_k hq713 (xke_k hq703 hkx3 (by decide)) (by decide)) (by decide)) (by decide)) (by decide)) (by decide)) hx4 hx5 hp
                refine xJ_if_ne hX dL_randomRoad_664 (tgt := 701) (by decide) h661 (fun c664 => ?_) (fun c664 => ?_)
                · replace hp := hp.1 c664
                  exact l701 _ _ _ _ _ _ _ _ _ _ _ (by omega) (by omega) hM661 (xke_trans hqE hq661) (xke_k hq661 hkx1 (by decide)) (xke_k hq661 hkx2 (by decide)) (xke_k hq661 hkx3 (by decide)) hx4 hx5 hp
                · replace hp := hp.2 c664
                  refine xJ_aload_n hX dL_randomRoad_667 rfl ?_
                  refine xJ_aload_n hX dL_randomRoad_668 rfl ?_
                  refine xJ_bipush hX dL_randomRoad_669 rfl ?_
                  obtain ⟨k671, hn671, hp⟩ := hp
                  refine xJ_callV (As := [_]) hX hB dL_randomRoad_671 lk_L_128 im_X13_below se_X13_below rfl (by decide) (xke_k hq661 hkx2 (by decide)) (c_X13_below hM661 (xke_k hq661 hkx2 (by decide)) ⟨by decide, by decide⟩ hp) (by decide) rfl rfl rfl (Nat.le_of_ble_eq_true rfl) (by omega) (by omega) (fun v t671 M671 hv => ?_) (fun _ _ _ q => q.elim)
                  clear hp
                  obtain ⟨r671, rfl, h671, hM671, hq671, hp⟩ := hv
                  dsimp only [Option.toList, List.cons_append, List.nil_append]
                  refine xJ_putIM hX dL_randomRoad_674 fd_L_165 ft_X14 rfl rfl rfl rfl (xke_k hq671 (xke_k hq661 hkx3 (by decide)) (by decide)) hM671 h671 (fun M674 e674 hM674 => ?_)
                  replace hp := hp M674 e674
                  refine xJ_aload_n hX dL_randomRoad_677 rfl ?_
                  refine xJ_aload_n hX dL_randomRoad_678 rfl ?_
                  refine xJ_ldcS 5 hX dL_randomRoad_679 (by decide +kernel) ?_
                  refine xJ_iconst hX dL_randomRoad_681 ?_
                  obtain ⟨hn682, hp⟩ := hp
                  refine xJ_newIE hX hB hM674 dL_randomRoad_682 ac_int (by decide) (by decide) (by omega) (by omega) (fun a682 t682 M682 ea682 et682 e682 hM682 hq682 hka682 => ?_)
                  replace hp := hp a682 t682 M682 ea682 et682 e682
                  refine xJ_dup hX dL_randomRoad_684 rfl ?_
                  refine xJ_iconst hX dL_randomRoad_685 ?_
                  refine xJ_aload_n hX dL_randomRoad_686 rfl ?_
                  refine xJ_getI hX dL_randomRoad_687 fd_L_165 rfl (xke_k hq682 (xke_k hq671 (xke_k hq661 hkx3 (by decide)) (by decide)) (by decide)) ?_
                  obtain ⟨h690, hp⟩ := hp
                  refine xJ_iastM hX dL_randomRoad_690 hka682 h690.1 h690.2 hM682 (hM682 _ _) (fun M690 e690 hM690 => ?_)
                  replace hp := hp M690 e690
                  obtain ⟨k691, hn691, hp⟩ := hp
                  refine xJ_callS (As := [_, _, _, _]) hX hB dL_randomRoad_691 lk_L_142 sm_L_writeNumbers (c_L_writeNumbers hM690 (xke_k hq682 (xke_k hq671 (xke_k hq661 hkx1 (by decide)) (by decide)) (by decide)) hka682 hp) (by decide) rfl rfl rfl (Nat.le_of_ble_eq_true rfl) (by omega) (by omega) (fun v t691 M691 hv => ?_) (fun _ _ _ q => q.elim)
                  clear hp
                  obtain ⟨rfl, hM691, hq691, hp⟩ := hv
                  dsimp only [Option.toList, List.cons_append, List.nil_append]
                  refine xJ_aload_n hX dL_randomRoad_694 rfl ?_
                  refine xJ_aload_n hX dL_randomRoad_695 rfl ?_
                  refine xJ_ldcS 20 hX dL_randomRoad_696 (by decide +kernel) ?_
                  obtain ⟨k698, hn698, hp⟩ := hp
                  refine xJ_callS (As := [_, _, _]) hX hB dL_randomRoad_698 lk_L_114 sm_L_write (c_L_write hM691 (xke_k hq691 (xke_k hq682 (xke_k hq671 (xke_k hq661 hkx1 (by decide)) (by decide)) (by decide)) (by decide)) hp) (by decide) rfl rfl rfl (Nat.le_of_ble_eq_true rfl) (by omega) (by omega) (fun v t698 M698 hv => ?_) (fun _ _ _ q => q.elim)
                  clear hp
                  obtain ⟨rfl, hM698, hq698, hp⟩ := hv
                  dsimp only [Option.toList, List.cons_append, List.nil_append]
                  exact l701 _ _ _ _ _ _ _ _ _ _ _ (by omega) (by omega) hM698 (xke_trans (xke_trans (xke_trans (xke_trans (xke_trans hqE hq661) hq671) hq682) hq691) hq698) (xke_k hq698 (xke_k hq691 (xke_k hq682 (xke_k hq671 (xke_k hq661 hkx1 (by decide)) (by decide)) (by decide)) (by decide)) (by decide)) (xke_k hq698 (xke_k hq691 (xke_k hq682 (xke_k hq671 (xke_k hq661 hkx2 (by decide)) (by decide)) (by decide)) (by decide)) (by decide)) (xke_k hq698 (xke_k hq691 (xke_k hq682 (xke_k hq671 (xke_k hq661 hkx3 (by decide)) (by decide)) (by decide)) (by decide)) (by decide)) hx4 hx5 hp
              have l547 : ∀ (k547 : Nat) (c s n : Nat) (x0 : Nat) (x1 : Nat) (x2 : Nat) (x3 : Nat) (x4 : Int) (x5 : Int) (x6 : Int) (t : xTh) (M : xMe) (hc : c + n ≤ nE) (hs : s + 64 * n ≤ 64 * nE) (hM : xMR M) (hqE : xke tE t) (hkx1 : xk t x1 = 14) (hkx2 : xk t x2 = 19) (hkx3 : xk t x3 = 20) (hx4 : xR x4) (hx5 : xR x5) (hx6 : xR x6) (hp : p_L_randomRoad_547 F G Q (p_L_randomRoad_659 F G Q) k547 n x0 x1 x2 x3 x4 x5 x6 t M), xJ X c s t M 547 [vr x0, vr x1, vr x2, vr x3, vi x4, vi x5, vi x6, vU, vU] [] := by
                intro k547
                induction k547 with
                | zero => intro c s n x0 x1 x2 x3 x4 x5 x6 t M hc hs hM hqE hkx1 hkx2 hkx3 hx4 hx5 hx6 hp; exact hp.elim
                | succ k547 ih547 =>
                  intro c s n x0 x1 x2 x3 x4 x5 x6 t M hc hs hM hqE hkx1 hkx2 hkx3 hx4 hx5 hx6 hp
                  unfold p_L_randomRoad_547 at hp
                  refine xJ_iload hX dL_randomRoad_547 rfl ?_
                  refine xJ_if_le hX dL_randomRoad_549 (tgt := 659) (by decide) hx6 (fun c549 => ?_) (fun c549 => ?_)
                  · replace hp := hp.1 c549
                    refine xJ_fg 6 ?_
                    dsimp only [List.set]
                    exact l659 _ _ _ _ _ _ _ _ _ _ _ (by omega) (by omega) hM hqE hkx1 hkx2 hkx3 hx4 hx5 hp
                  · replace hp := hp.2 c549
                    refine xJ_aload_n hX dL_randomRoad_552 rfl ?_
                    refine xJ_aload_n hX dL_randomRoad_553 rfl ?_
                    obtain ⟨b554, e554, hkb554, hp⟩ := hp
                    refine xJ_getR (b := b554) hX dL_randomRoad_554 fd_L_161 rfl hkx3 e554 ?_
                    refine xJ_iconst hX dL_randomRoad_557 ?_
                    obtain ⟨hn558, hp⟩ := hp
                    refine xJ_newIE hX hB hM dL_randomRoad_558 ac_int (by decide) (by decide) (by omega) (by omega) (fun a558 t558 M558 ea558 et558 e558 hM558 hq558 hka558 => ?_)
                    replace hp := hp a558 t558 M558 ea558 et558 e558
                    refine xJ_dup hX dL_randomRoad_560 rfl ?_
                    refine xJ_iconst hX dL_randomRoad_561 ?_
                    refine xJ_aload_n hX dL_randomRoad_562 rfl ?_
                    refine xJ_iload hX dL_randomRoad_563 rfl ?_
                    obtain ⟨k565, hn565, hp⟩ := hp
                    refine xJ_callV (As := [_]) hX hB dL_randomRoad_565 lk_L_128 im_X13_below se_X13_below rfl (by decide) (xke_k hq558 hkx2 (by decide)) (c_X13_below hM558 (xke_k hq558 hkx2 (by decide)) hx5 hp) (by decide) rfl rfl rfl (Nat.le_of_ble_eq_true rfl) (by omega) (by omega) (fun v t565 M565 hv => ?_) (fun _ _ _ q => q.elim)
                    clear hp
                    obtain ⟨r565, rfl, h565, hM565, hq565, hp⟩ := hv
                    dsimp only [Option.toList, List.cons_append, List.nil_append]
                    obtain ⟨h568, hp⟩ := hp
                    refine xJ_iastM hX dL_randomRoad_568 (xke_k hq565 hka558 (by decide)) h568.1 h568.2 hM565 h565 (fun M568 e568 hM568 => ?_)
                    replace hp := hp M568 e568
                    refine xJ_dup hX dL_randomRoad_569 rfl ?_
                    refine xJ_iconst hX dL_randomRoad_570 ?_
                    refine xJ_iconst hX dL_randomRoad_571 ?_
                    refine xJ_aload_n hX dL_randomRoad_572 rfl ?_
                    refine xJ_bipush hX dL_randomRoad_573 rfl ?_
                    obtain ⟨k575, hn575, hp⟩ := hp
                    refine xJ_callV (As := [_]) hX hB dL_randomRoad_575 lk_L_128 im_X13_below se_X13_below rfl (by decide) (xke_k hq565 (xke_k hq558 hkx2 (by decide)) (by decide)) (c_X13_below hM568 (xke_k hq565 (xke_k hq558 hkx2 (by decide)) (by decide)) ⟨by decide, by decide⟩ hp) (by decide) rfl rfl rfl (Nat.le_of_ble_eq_true rfl) (by omega) (by omega) (fun v t575 M575 hv => ?_) (fun _ _ _ q => q.elim)
                    clear hp
                    obtain ⟨r575, rfl, h575, hM575, hq575, hp⟩ := hv
                    dsimp only [Option.toList, List.cons_append, List.nil_append]
                    refine xJ_iadd hX dL_randomRoad_578 ?_
                    obtain ⟨h578, hp⟩ := hp
                    obtain ⟨h579, hp⟩ := hp
                    refine xJ_iastM hX dL_randomRoad_579 (xke_k hq575 (xke_k hq565 hka558 (by decide)) (by decide)) h579.1 h579.2 hM575 h578 (fun M579 e579 hM579 => ?_)
                    replace hp := hp M579 e579
                    refine xJ_dup hX dL_randomRoad_580 rfl ?_
                    refine xJ_iconst hX dL_randomRoad_581 ?_
                    refine xJ_iconst hX dL_randomRoad_582 ?_
                    refine xJ_aload_n hX dL_randomRoad_583 rfl ?_
                    refine xJ_bipush hX dL_randomRoad_584 rfl ?_
                    obtain ⟨k586, hn586, hp⟩ := hp
                    refine xJ_callV (As := [_]) hX hB dL_randomRoad_586 lk_L_128 im_X13_below se_X13_below rfl (by decide) (xke_k hq575 (xke_k hq565 (xke_k hq558 hkx2 (by decide)) (by decide)) (by decide)) (c_X13_below hM579 (xke_k hq575 (xke_k hq565 (xke_k hq558 hkx2 (by decide)) (by decide)) (by decide)) ⟨by decide, by decide⟩ hp) (by decide) rfl rfl rfl (Nat.le_of_ble_eq_true rfl) (by omega) (by omega) (fun v t586 M586 hv => ?_) (fun _ _ _ q => q.elim)
                    clear hp
                    obtain ⟨r586, rfl, h586, hM586, hq586, hp⟩ := hv
                    dsimp only [Option.toList, List.cons_append, List.nil_append]
                    refine xJ_iadd hX dL_randomRoad_589 ?_
                    obtain ⟨h589, hp⟩ := hp
                    obtain ⟨h590, hp⟩ := hp
                    refine xJ_iastM hX dL_randomRoad_590 (xke_k hq586 (xke_k hq575 (xke_k hq565 hka558 (by decide)) (by decide)) (by decide)) h590.1 h590.2 hM586 h589 (fun M590 e590 hM590 => ?_)
                    replace hp := hp M590 e590
                    refine xJ_dup hX dL_randomRoad_591 rfl ?_
                    refine xJ_iconst hX dL_randomRoad_592 ?_
                    refine xJ_iconst hX dL_randomRoad_593 ?_
                    obtain ⟨h594, hp⟩ := hp
                    refine xJ_iastM hX dL_randomRoad_594 (xke_k hq586 (xke_k hq575 (xke_k hq565 hka558 (by decide)) (by decide)) (by decide)) h594.1 h594.2 hM590 ⟨by decide, by decide⟩ (fun M594 e594 hM594 => ?_)
                    replace hp := hp M594 e594
                    obtain ⟨k595, hn595, hp⟩ := hp
                    refine xJ_callS (As := [_, _]) hX hB dL_randomRoad_595 lk_L_137 sm_L_with (c_L_with hM594 (xke_k hq586 (xke_k hq575 (xke_k hq565 (xke_k hq558 hkb554 (by decide)) (by decide)) (by decide)) (by decide)) (xke_k hq586 (xke_k hq575 (xke_k hq565 hka558 (by decide)) (by decide)) (by decide)) hp) (by decide) rfl rfl rfl (Nat.le_of_ble_eq_true rfl) (by omega) (by omega) (fun v t595 M595 hv => ?_) (fun _ _ _ q => q.elim)
                    clear hp
                    obtain ⟨r595, rfl, hk595, hM595, hq595, hp⟩ := hv
                    dsimp only [Option.toList, List.cons_append, List.nil_append]
                    refine xJ_putRE (x := (some r595)) hX dL_randomRoad_598 fd_L_161 ft_X14 rfl rfl rfl rfl (xke_k hq595 (xke_k hq586 (xke_k hq575 (xke_k hq565 (xke_k hq558 hkx3 (by decide)) (by decide)) (by decide)) (by decide)) (by decide)) (fun t598 et598 hq598 => ?_)
                    replace hp := hp t598 et598
                    refine xJ_aload_n hX dL_randomRoad_601 rfl ?_
                    obtain ⟨b602, e602, hkb602, hp⟩ := hp
                    refine xJ_getR (b := b602) hX dL_randomRoad_602 fd_L_161 rfl (xke_k hq598 (xke_k hq595 (xke_k hq586 (xke_k hq575 (xke_k hq565 (xke_k hq558 hkx3 (by decide)) (by decide)) (by decide)) (by decide)) (by decide)) (by decide)) e602 ?_
                    refine xJ_aload_n hX dL_randomRoad_605 rfl ?_
                    refine xJ_getR (b := b602) hX dL_randomRoad_606 fd_L_161 rfl (xke_k hq598 (xke_k hq595 (xke_k hq586 (xke_k hq575 (xke_k hq565 (xke_k hq558 hkx3 (by decide)) (by decide)) (by decide)) (by decide)) (by decide)) (by decide)) e602 ?_
                    refine xJ_alen hX dL_randomRoad_609 (by rw [hkb602]; decide) (by rw [hkb602]; decide) ?_
                    obtain ⟨h609, hp⟩ := hp
                    refine xJ_iconst hX dL_randomRoad_610 ?_
                    refine xJ_isub hX dL_randomRoad_611 ?_
                    obtain ⟨h611, hp⟩ := hp
                    obtain ⟨h612, hp⟩ := hp
                    obtain ⟨b612, e612, hkb612, hp⟩ := hp
                    refine xJ_aaldOb hX dL_randomRoad_612 hkb602 h612.1 h612.2 e612 ?_
                    refine xJ_astore hX dL_randomRoad_613 (Nat.le_of_ble_eq_true rfl) rfl ?_
                    dsimp only [List.set]
                    refine xJ_aload_n hX dL_randomRoad_615 rfl ?_
                    refine xJ_aload_n hX dL_randomRoad_616 rfl ?_
                    refine xJ_ldcS 4 hX dL_randomRoad_617 (by decide +kernel) ?_
                    refine xJ_iconst hX dL_randomRoad_619 ?_
                    obtain ⟨hn620, hp⟩ := hp
                    refine xJ_newIE hX hB hM595 dL_randomRoad_620 ac_int (by decide) (by decide) (by omega) (by omega) (fun a620 t620 M620 ea620 et620 e620 hM620 hq620 hka620 => ?_)
                    replace hp := hp a620 t620 M620 ea620 et620 e620
                    refine xJ_dup hX dL_randomRoad_622 rfl ?_
                    refine xJ_iconst hX dL_randomRoad_623 ?_
                    refine xJ_aload hX dL_randomRoad_624 rfl ?_
                    refine xJ_iconst hX dL_randomRoad_626 ?_
                    obtain ⟨h627, hp⟩ := hp
                    refine xJ_iald hX dL_randomRoad_627 (xke_k hq620 hkb612 (by decide)) h627.1 h627.2 ?_
                    obtain ⟨h628, hp⟩ := hp
                    refine xJ_iastM hX dL_randomRoad_628 hka620 h628.1 h628.2 hM620 (hM620 _ _) (fun M628 e628 hM628 => ?_)
                    replace hp := hp M628 e628
                    refine xJ_dup hX dL_randomRoad_629 rfl ?_
                    refine xJ_iconst hX dL_randomRoad_630 ?_
                    refine xJ_aload hX dL_randomRoad_631 rfl ?_
                    refine xJ_iconst hX dL_randomRoad_633 ?_
                    obtain ⟨h634, hp⟩ := hp
                    refine xJ_iald hX dL_randomRoad_634 (xke_k hq620 hkb612 (by decide)) h634.1 h634.2 ?_
                    obtain ⟨h635, hp⟩ := hp
                    refine xJ_iastM hX dL_randomRoad_635 hka620 h635.1 h635.2 hM628 (hM628 _ _) (fun M635 e635 hM635 => ?_)
                    replace hp := hp M635 e635
                    refine xJ_dup hX dL_randomRoad_636 rfl ?_
                    refine xJ_iconst hX dL_randomRoad_637 ?_
                    refine xJ_aload hX dL_randomRoad_638 rfl ?_
                    refine xJ_iconst hX dL_randomRoad_640 ?_
                    obtain ⟨h641, hp⟩ := hp
                    refine xJ_iald hX dL_randomRoad_641 (xke_k hq620 hkb612 (by decide)) h641.1 h641.2 ?_
                    obtain ⟨h642, hp⟩ := hp
                    refine xJ_iastM hX dL_randomRoad_642 hka620 h642.1 h642.2 hM635 (hM635 _ _) (fun M642 e642 hM642 => ?_)
                    replace hp := hp M642 e642
                    obtain ⟨k643, hn643, hp⟩ := hp
                    refine xJ_callS (As := [_, _, _, _]) hX hB dL_randomRoad_643 lk_L_142 sm_L_writeNumbers (c_L_writeNumbers hM642 (xke_k hq620 (xke_k hq598 (xke_k hq595 (xke_k hq586 (xke_k hq575 (xke_k hq565 (xke_k hq558 hkx1 (by decide)) (by decide)) (by decide)) (by decide)) (by decide)) (by decide)) (by decide)) hka620 hp) (by decide) rfl rfl rfl (Nat.le_of_ble_eq_true rfl) (by omega) (by omega) (fun v t643 M643 hv => ?_) (fun _ _ _ q => q.elim)
                    clear hp
                    obtain ⟨rfl, hM643, hq643, hp⟩ := hv
                    dsimp only [Option.toList, List.cons_append, List.nil_append]
                    refine xJ_aload_n hX dL_randomRoad_646 rfl ?_
                    refine xJ_aload_n hX dL_randomRoad_647 rfl ?_
                    refine xJ_ldcS 20 hX dL_randomRoad_648 (by decide +kernel) ?_
                    obtain ⟨k650, hn650, hp⟩ := hp
                    refine xJ_callS (As := [_, _, _]) hX hB dL_randomRoad_650 lk_L_114 sm_L_write (c_L_write hM643 (xke_k hq643 (xke_k hq620 (xke_k hq598 (xke_k hq595 (xke_k hq586 (xke_k hq575 (xke_k hq565 (xke_k hq558 hkx1 (by decide)) (by decide)) (by decide)) (by decide)) (by decide)) (by decide)) (by decide)) (by decide)) hp) (by decide) rfl rfl rfl (Nat.le_of_ble_eq_true rfl) (by omega) (by omega) (fun v t650 M650 hv => ?_) (fun _ _ _ q => q.elim)
                    clear hp
                    obtain ⟨rfl, hM650, hq650, hp⟩ := hv
                    dsimp only [Option.toList, List.cons_append, List.nil_append]
                    refine xJ_iinc hX dL_randomRoad_653 rfl rfl ?_
                    dsimp only [List.set]
                    obtain ⟨h653, hp⟩ := hp
                    refine xJ_goto hX dL_randomRoad_656 (tgt := 547) (by decide) ?_
                    refine xJ_fg 7 ?_
                    dsimp only [List.set]
                    exact ih547 _ _ _ _ _ _ _ _ _ _ _ _ (by omega) (by omega) hM650 (xke_trans (xke_trans (xke_trans (xke_trans (xke_trans (xke_trans (xke_trans (xke_trans (xke_trans hqE hq558) hq565) hq575) hq586) hq595) hq598) hq620) hq643) hq650) (xke_k hq650 (xke_k hq643 (xke_k hq620 (xke_k hq598 (xke_k hq595 (xke_k hq586 (xke_k hq575 (xke_k hq565 (xke_k hq558 hkx1 (by decide)) (by decide)) (by decide)) (by decide)) (by decide)) (by decide)) (by decide)) (by decide)) (by decide)) (xke_k hq650 (xke_k hq643 (xke_k hq620 (xke_k hq598 (xke_k hq595 (xke_k hq586 (xke_k hq575 (xke_k hq565 (xke_k hq558 hkx2 (by decide)) (by decide)) (by decide)) (by decide)) (by decide)) (by decide)) (by decide)) (by decide)) (by decide)) (xke_k hq650 (xke_k hq643 (xke_k hq620 (xke_k hq598 (xke_k hq595 (xke_k hq586 (xke_k hq575 (xke_k hq565 (xke_k hq558 hkx3 (by decide)) (by decide)) (by decide)) (by decide)) (by decide)) (by decide)) (by decide)) (by decide)) (by decide)) hx4 hx5 h653 hp
              exact l547 F _ _ _ _ _ _ _ _ _ _ _ _ (by omega) (by omega) hM hqE hkx1 hkx2 hkx3 hx4 hx5 hy0 hp
            refine xJ_if_ne hX dL_randomRoad_532 (tgt := 539) (by decide) hx5 (fun c532 => ?_) (fun c532 => ?_)
            · replace hp := hp.1 c532
              refine xJ_aload_n hX dL_randomRoad_539 rfl ?_
              refine xJ_bipush hX dL_randomRoad_540 rfl ?_
              obtain ⟨k542, hn542, hp⟩ := hp
              refine xJ_callV (As := [_]) hX hB dL_randomRoad_542 lk_L_128 im_X13_below se_X13_below rfl (by decide) hkx2 (c_X13_below hM hkx2 ⟨by decide, by decide⟩ hp) (by decide) rfl rfl rfl (Nat.le_of_ble_eq_true rfl) (by omega) (by omega) (fun v t542 M542 hv => ?_) (fun _ _ _ q => q.elim)
              clear hp
              obtain ⟨r542, rfl, h542, hM542, hq542, hp⟩ := hv
              dsimp only [Option.toList, List.cons_append, List.nil_append]
              exact l545 _ _ _ _ _ _ _ _ _ _ _ _ (by omega) (by omega) hM542 (xke_trans hqE hq542) (xke_k hq542 hkx1 (by decide)) (xke_k hq542 hkx2 (by decide)) (xke_k hq542 hkx3 (by decide)) hx4 hx5 h542 hp
            · replace hp := hp.2 c532
              refine xJ_iconst hX dL_randomRoad_535 ?_
              refine xJ_goto hX dL_randomRoad_536 (tgt := 545) (by decide) ?_
              exact l545 _ _ _ _ _ _ _ _ _ _ _ _ (by omega) (by omega) hM hqE hkx1 hkx2 hkx3 hx4 hx5 ⟨by decide, by decide⟩ hp
          have l375 : ∀ (k375 : Nat) (c s n : Nat) (x0 : Nat) (x1 : Nat) (x2 : Nat) (x3 : Nat) (x4 : Int) (x5 : Int) (x6 : Int) (t : xTh) (M : xMe) (hc : c + n ≤ nE) (hs : s + 64 * n ≤ 64 * nE) (hM : xMR M) (hqE : xke tE t) (hkx1 : xk t x1 = 14) (hkx2 : xk t x2 = 19) (hkx3 : xk t x3 = 20) (hx4 : xR x4) (hx5 : xR x5) (hx6 : xR x6) (hp : p_L_randomRoad_375 F G Q (p_L_randomRoad_530 F G Q) k375 n x0 x1 x2 x3 x4 x5 x6 t M), xJ X c s t M 375 [vr x0, vr x1, vr x2, vr x3, vi x4, vi x5, vi x6, vU, vU] [] := by
            intro k375
            induction k375 with
            | zero => intro c s n x0 x1 x2 x3 x4 x5 x6 t M hc hs hM hqE hkx1 hkx2 hkx3 hx4 hx5 hx6 hp; exact hp.elim
            | succ k375 ih375 =>
              intro c s n x0 x1 x2 x3 x4 x5 x6 t M hc hs hM hqE hkx1 hkx2 hkx3 hx4 hx5 hx6 hp
              unfold p_L_randomRoad_375 at hp
              refine xJ_iload hX dL_randomRoad_375 rfl ?_
              refine xJ_if_le hX dL_randomRoad_377 (tgt := 530) (by decide) hx6 (fun c377 => ?_) (fun c377 => ?_)
              · replace hp := hp.1 c377
                refine xJ_fg 6 ?_
                dsimp only [List.set]
                exact l530 _ _ _ _ _ _ _ _ _ _ _ (by omega) (by omega) hM hqE hkx1 hkx2 hkx3 hx4 hx5 hp
              · replace hp := hp.2 c377
                refine xJ_aload_n hX dL_randomRoad_380 rfl ?_
                refine xJ_aload_n hX dL_randomRoad_381 rfl ?_
                obtain ⟨b382, e382, hkb382, hp⟩ := hp
                refine xJ_getR (b := b382) hX dL_randomRoad_382 fd_L_157 rfl hkx3 e382 ?_
                refine xJ_bipush hX dL_randomRoad_385 rfl ?_
                obtain ⟨hn387, hp⟩ := hp
                refine xJ_newIE hX hB hM dL_randomRoad_387 ac_int (by decide) (by decide) (by omega) (by omega) (fun a387 t387 M387 ea387 et387 e387 hM387 hq387 hka387 => ?_)
                replace hp := hp a387 t387 M387 ea387 et387 e387
                refine xJ_dup hX dL_randomRoad_389 rfl ?_
                refine xJ_iconst hX dL_randomRoad_390 ?_
                refine xJ_aload_n hX dL_randomRoad_391 rfl ?_
                refine xJ_iload hX dL_randomRoad_392 rfl ?_
                obtain ⟨k394, hn394, hp⟩ := hp
                refine xJ_callV (As := [_]) hX hB dL_randomRoad_394 lk_L_128 im_X13_below se_X13_below rfl (by decide) (xke_k hq387 hkx2 (by decide)) (c_X13_below hM387 (xke_k hq387 hkx2 (by decide)) hx5 hp) (by decide) rfl rfl rfl (Nat.le_of_ble_eq_true rfl) (by omega) (by omega) (fun v t394 M394 hv => ?_) (fun _ _ _ q => q.elim)
                clear hp
                obtain ⟨r394, rfl, h394, hM394, hq394, hp⟩ := hv
                dsimp only [Option.toList, List.cons_append, List.nil_append]
                obtain ⟨h397, hp⟩ := hp
                refine xJ_iastM hX dL_randomRoad_397 (xke_k hq394 hka387 (by decide)) h397.1 h397.2 hM394 h394 (fun M397 e397 hM397 => ?_)
                replace hp := hp M397 e397
                refine xJ_dup hX dL_randomRoad_398 rfl ?_
                refine xJ_iconst hX dL_randomRoad_399 ?_
                refine xJ_aload_n hX dL_randomRoad_400 rfl ?_
                refine xJ_aload_n hX dL_randomRoad_401 rfl ?_
                refine xJ_iconst hX dL_randomRoad_402 ?_
                obtain ⟨k403, hn403, hp⟩ := hp
                refine xJ_callV (As := [_]) hX hB dL_randomRoad_403 lk_L_128 im_X13_below se_X13_below rfl (by decide) (xke_k hq394 (xke_k hq387 hkx2 (by decide)) (by decide)) (c_X13_below hM397 (xke_k hq394 (xke_k hq387 hkx2 (by decide)) (by decide)) ⟨by decide, by decide⟩ hp) (by decide) rfl rfl rfl (Nat.le_of_ble_eq_true rfl) (by omega) (by omega) (fun v t403 M403 hv => ?_) (fun _ _ _ q => q.elim)
                clear hp
                obtain ⟨r403, rfl, h403, hM403, hq403, hp⟩ := hv
                dsimp only [Option.toList, List.cons_append, List.nil_append]
                have l416 : ∀ (c s n : Nat) (x0 : Nat) (x1 : Nat) (x2 : Nat) (x3 : Nat) (x4 : Int) (x5 : Int) (x6 : Int) (y0 : Int) (y1 : Nat) (y2 : Int) (y3 : Nat) (y4 : Nat) (y5 : Nat) (y6 : Nat) (t : xTh) (M : xMe) (hc : c + n ≤ nE) (hs : s + 64 * n ≤ 64 * nE) (hM : xMR M) (hqE : xke tE t) (hkx1 : xk t x1 = 14) (hkx2 : xk t x2 = 19) (hkx3 : xk t x3 = 20) (hx4 : xR x4) (hx5 : xR x5) (hx6 : xR x6) (hy0 : xR y0) (hky1 : xk t y1 = 19) (hy2 : xR y2) (hky3 : xk t y3 = 14) (hky4 : xk t y4 = 14) (hky5 : xk t y5 = 17) (hky6 : xk t y6 = 20) (hp : p_L_randomRoad_416 F G Q (p_L_randomRoad_375 F G Q (p_L_randomRoad_530 F G Q) k375) (p_L_randomRoad_530 F G Q) n x0 x1 x2 x3 x4 x5 x6 y0 y1 y2 y3 y4 y5 y6 t M), xJ X c s t M 416 [vr x0, vr x1, vr x2, vr x3, vi x4, vi x5, vi x6, vU, vU] [vi y0, vr y1, vi y2, vr y3, vr y4, vr y5, vr y6] := by
                  intro c s n x0 x1 x2 x3 x4 x5 x6 y0 y1 y2 y3 y4 y5 y6 t M hc hs hM hqE hkx1 hkx2 hkx3 hx4 hx5 hx6 hy0 hky1 hy2 hky3 hky4 hky5 hky6 hp
                  unfold p_L_randomRoad_416 at hp
                  obtain ⟨k416, hn416, hp⟩ := hp
                  refine xJ_callV (As := [_]) hX hB dL_randomRoad_416 lk_L_128 im_X13_below se_X13_below rfl (by decide) hky1 (c_X13_below hM hky1 hy0 hp) (by decide) rfl rfl rfl (Nat.le_of_ble_eq_true rfl) (by omega) (by omega) (fun v t416 M416 hv => ?_) (fun _ _ _ q => q.elim)
                  clear hp
                  obtain ⟨r416, rfl, h416, hM416, hq416, hp⟩ := hv
                  dsimp only [Option.toList, List.cons_append, List.nil_append]
                  obtain ⟨h419, hp⟩ := hp
                  refine xJ_iastM hX dL_randomRoad_419 (xke_k hq416 hky3 (by decide)) h419.1 h419.2 hM416 h416 (fun M419 e419 hM419 => ?_)
                  replace hp := hp M419 e419
                  refine xJ_dup hX dL_randomRoad_420 rfl ?_
                  refine xJ_iconst hX dL_randomRoad_421 ?_
                  refine xJ_iconst hX dL_randomRoad_422 ?_
                  refine xJ_aload_n hX dL_randomRoad_423 rfl ?_
                  refine xJ_aload_n hX dL_randomRoad_424 rfl ?_
                  refine xJ_iconst hX dL_randomRoad_425 ?_
                  obtain ⟨k426, hn426, hp⟩ := hp
                  refine xJ_callV (As := [_]) hX hB dL_randomRoad_426 lk_L_128 im_X13_below se_X13_below rfl (by decide) (xke_k hq416 hkx2 (by decide)) (c_X13_below hM419 (xke_k hq416 hkx2 (by decide)) ⟨by decide, by decide⟩ hp) (by decide) rfl rfl rfl (Nat.le_of_ble_eq_true rfl) (by omega) (by omega) (fun v t426 M426 hv => ?_) (fun _ _ _ q => q.elim)
                  clear hp
                  obtain ⟨r426, rfl, h426, hM426, hq426, hp⟩ := hv
                  dsimp only [Option.toList, List.cons_append, List.nil_append]
                  have l439 : ∀ (c s n : Nat) (x0 : Nat) (x1 : Nat) (x2 : Nat) (x3 : Nat) (x4 : Int) (x5 : Int) (x6 : Int) (y0 : Int) (y1 : Nat) (y2 : Int) (y3 : Int) (y4 : Nat) (y5 : Nat) (y6 : Nat) (y7 : Nat) (t : xTh) (M : xMe) (hc : c + n ≤ nE) (hs : s + 64 * n ≤ 64 * nE) (hM : xMR M) (hqE : xke tE t) (hkx1 : xk t x1 = 14) (hkx2 : xk t x2 = 19) (hkx3 : xk t x3 = 20) (hx4 : xR x4) (hx5 : xR x5) (hx6 : xR x6) (hy0 : xR y0) (hky1 : xk t y1 = 19) (hy2 : xR y2) (hy3 : xR y3) (hky4 : xk t y4 = 14) (hky5 : xk t y5 = 14) (hky6 : xk t y6 = 17) (hky7 : xk t y7 = 20) (hp : p_L_randomRoad_439 F G Q (p_L_randomRoad_375 F G Q (p_L_randomRoad_530 F G Q) k375) (p_L_randomRoad_530 F G Q) n x0 x1 x2 x3 x4 x5 x6 y0 y1 y2 y3 y4 y5 y6 y7 t M), xJ X c s t M 439 [vr x0, vr x1, vr x2, vr x3, vi x4, vi x5, vi x6, vU, vU] [vi y0, vr y1, vi y2, vi y3, vr y4, vr y5, vr y6, vr y7] := by
                    intro c s n x0 x1 x2 x3 x4 x5 x6 y0 y1 y2 y3 y4 y5 y6 y7 t M hc hs hM hqE hkx1 hkx2 hkx3 hx4 hx5 hx6 hy0 hky1 hy2 hy3 hky4 hky5 hky6 hky7 hp
                    unfold p_L_randomRoad_439 at hp
                    obtain ⟨k439, hn439, hp⟩ := hp
                    refine xJ_callV (As := [_]) hX hB dL_randomRoad_439 lk_L_128 im_X13_below se_X13_below rfl (by decide) hky1 (c_X13_below hM hky1 hy0 hp) (by decide) rfl rfl rfl (Nat.le_of_ble_eq_true rfl) (by omega) (by omega) (fun v t439 M439 hv => ?_) (fun _ _ _ q => q.elim)
                    clear hp
                    obtain ⟨r439, rfl, h439, hM439, hq439, hp⟩ := hv
                    dsimp only [Option.toList, List.cons_append, List.nil_append]
                    refine xJ_iadd hX dL_randomRoad_442 ?_
                    obtain ⟨h442, hp⟩ := hp
                    obtain ⟨h443, hp⟩ := hp
                    refine xJ_iastM hX dL_randomRoad_443 (xke_k hq439 hky4 (by decide)) h443.1 h443.2 hM439 h442 (fun M443 e443 hM443 => ?_)
                    replace hp := hp M443 e443
                    refine xJ_dup hX dL_randomRoad_444 rfl ?_
                    refine xJ_iconst hX dL_randomRoad_445 ?_
                    refine xJ_iconst hX dL_randomRoad_446 ?_
                    obtain ⟨h447, hp⟩ := hp
                    refine xJ_iastM hX dL_randomRoad_447 (xke_k hq439 hky5 (by decide)) h447.1 h447.2 hM443 ⟨by decide, by decide⟩ (fun M447 e447 hM447 => ?_)
                    replace hp := hp M447 e447
                    refine xJ_dup hX dL_randomRoad_448 rfl ?_
                    refine xJ_iconst hX dL_randomRoad_449 ?_
                    refine xJ_iconst hX dL_randomRoad_450 ?_
                    obtain ⟨h451, hp⟩ := hp
                    refine xJ_iastM hX dL_randomRoad_451 (xke_k hq439 hky5 (by decide)) h451.1 h451.2 hM447 ⟨by decide, by decide⟩ (fun M451 e451 hM451 => ?_)
                    replace hp := hp M451 e451
                    refine xJ_dup hX dL_randomRoad_452 rfl ?_
                    refine xJ_iconst hX dL_randomRoad_453 ?_
                    refine xJ_iconst hX dL_randomRoad_454 ?_
                    obtain ⟨h455, hp⟩ := hp
                    refine xJ_iastM hX dL_randomRoad_455 (xke_k hq439 hky5 (by decide)) h455.1 h455.2 hM451 ⟨by decide, by decide⟩ (fun M455 e455 hM455 => ?_)
                    replace hp := hp M455 e455
                    refine xJ_dup hX dL_randomRoad_456 rfl ?_
                    refine xJ_bipush hX dL_randomRoad_457 rfl ?_
                    refine xJ_iconst hX dL_randomRoad_459 ?_
                    obtain ⟨h460, hp⟩ := hp
                    refine xJ_iastM hX dL_randomRoad_460 (xke_k hq439 hky5 (by decide)) h460.1 h460.2 hM455 ⟨by decide, by decide⟩ (fun M460 e460 hM460 => ?_)
                    replace hp := hp M460 e460
                    refine xJ_dup hX dL_randomRoad_461 rfl ?_
                    refine xJ_bipush hX dL_randomRoad_462 rfl ?_
                    refine xJ_iconst hX dL_randomRoad_464 ?_
                    obtain ⟨h465, hp⟩ := hp
                    refine xJ_iastM hX dL_randomRoad_465 (xke_k hq439 hky5 (by decide)) h465.1 h465.2 hM460 ⟨by decide, by decide⟩ (fun M465 e465 hM465 => ?_)
                    replace hp := hp M465 e465
                    obtain ⟨k466, hn466, hp⟩ := hp
                    refine xJ_callS (As := [_, _]) hX hB dL_randomRoad_466 lk_L_137 sm_L_with (c_L_with hM465 (xke_k hq439 hky6 (by decide)) (xke_k hq439 hky5 (by decide)) hp) (by decide) rfl rfl rfl (Nat.le_of_ble_eq_true rfl) (by omega) (by omega) (fun v t466 M466 hv => ?_) (fun _ _ _ q => q.elim)
                    clear hp
                    obtain ⟨r466, rfl, hk466, hM466, hq466, hp⟩ := hv
                    dsimp only [Option.toList, List.cons_append, List.nil_append]
                    refine xJ_putRE (x := (some r466)) hX dL_randomRoad_469 fd_L_157 ft_X14 rfl rfl rfl rfl (xke_k hq466 (xke_k hq439 hky7 (by decide)) (by decide)) (fun t469 et469 hq469 => ?_)
                    replace hp := hp t469 et469
                    refine xJ_aload_n hX dL_randomRoad_472 rfl ?_
                    obtain ⟨b473, e473, hkb473, hp⟩ := hp
                    refine xJ_getR (b := b473) hX dL_randomRoad_473 fd_L_157 rfl (xke_k hq469 (xke_k hq466 (xke_k hq439 hkx3 (by decide)) (by decide)) (by decide)) e473 ?_
                    refine xJ_aload_n hX dL_randomRoad_476 rfl ?_
                    refine xJ_getR (b := b473) hX dL_randomRoad_477 fd_L_157 rfl (xke_k hq469 (xke_k hq466 (xke_k hq439 hkx3 (by decide)) (by decide)) (by decide)) e473 ?_
                    refine xJ_alen hX dL_randomRoad_480 (by rw [hkb473]; decide) (by rw [hkb473]; decide) ?_
                    obtain ⟨h480, hp⟩ := hp
                    refine xJ_iconst hX dL_randomRoad_481 ?_
                    refine xJ_isub hX dL_randomRoad_482 ?_
                    obtain ⟨h482, hp⟩ := hp
                    obtain ⟨h483, hp⟩ := hp
                    obtain ⟨b483, e483, hkb483, hp⟩ := hp
                    refine xJ_aaldOb hX dL_randomRoad_483 hkb473 h483.1 h483.2 e483 ?_
                    refine xJ_astore hX dL_randomRoad_484 (Nat.le_of_ble_eq_true rfl) rfl ?_
                    dsimp only [List.set]
                    refine xJ_aload_n hX dL_randomRoad_486 rfl ?_
                    refine xJ_aload_n hX dL_randomRoad_487 rfl ?_
                    refine xJ_ldcS 3 hX dL_randomRoad_488 (by decide +kernel) ?_
                    refine xJ_iconst hX dL_randomRoad_490 ?_
                    obtain ⟨hn491, hp⟩ := hp
                    refine xJ_newIE hX hB hM466 dL_randomRoad_491 ac_int (by decide) (by decide) (by omega) (by omega) (fun a491 t491 M491 ea491 et491 e491 hM491 hq491 hka491 => ?_)
                    replace hp := hp a491 t491 M491 ea491 et491 e491
                    refine xJ_dup hX dL_randomRoad_493 rfl ?_
                    refine xJ_iconst hX dL_randomRoad_494 ?_
                    refine xJ_aload hX dL_randomRoad_495 rfl ?_
                    refine xJ_iconst hX dL_randomRoad_497 ?_
                    obtain ⟨h498, hp⟩ := hp
                    refine xJ_iald hX dL_randomRoad_498 (xke_k hq491 hkb483 (by decide)) h498.1 h498.2 ?_
                    obtain ⟨h499, hp⟩ := hp
                    refine xJ_iastM hX dL_randomRoad_499 hka491 h499.1 h499.2 hM491 (hM491 _ _) (fun M499 e499 hM499 => ?_)
                    replace hp := hp M499 e499
                    refine xJ_dup hX dL_randomRoad_500 rfl ?_
                    refine xJ_iconst hX dL_randomRoad_501 ?_
                    refine xJ_aload hX dL_randomRoad_502 rfl ?_
                    refine xJ_iconst hX dL_randomRoad_504 ?_
                    obtain ⟨h505, hp⟩ := hp
                    refine xJ_iald hX dL_randomRoad_505 (xke_k hq491 hkb483 (by decide)) h505.1 h505.2 ?_
                    obtain ⟨h506, hp⟩ := hp
                    refine xJ_iastM hX dL_randomRoad_506 hka491 h506.1 h506.2 hM499 (hM499 _ _) (fun M506 e506 hM506 => ?_)
                    replace hp := hp M506 e506
                    refine xJ_dup hX dL_randomRoad_507 rfl ?_
                    refine xJ_iconst hX dL_randomRoad_508 ?_
                    refine xJ_aload hX dL_randomRoad_509 rfl ?_
                    refine xJ_iconst hX dL_randomRoad_511 ?_
                    obtain ⟨h512, hp⟩ := hp
                    refine xJ_iald hX dL_randomRoad_512 (xke_k hq491 hkb483 (by decide)) h512.1 h512.2 ?_
                    obtain ⟨h513, hp⟩ := hp
                    refine xJ_iastM hX dL_randomRoad_513 hka491 h513.1 h513.2 hM506 (hM506 _ _) (fun M513 e513 hM513 => ?_)
                    replace hp := hp M513 e513
                    obtain ⟨k514, hn514, hp⟩ := hp
                    refine xJ_callS (As := [_, _, _, _]) hX hB dL_randomRoad_514 lk_L_142 sm_L_writeNumbers (c_L_writeNumbers hM513 (xke_k hq491 (xke_k hq469 (xke_k hq466 (xke_k hq439 hkx1 (by decide)) (by decide)) (by decide)) (by decide)) hka491 hp) (by decide) rfl rfl rfl (Nat.le_of_ble_eq_true rfl) (by omega) (by omega) (fun v t514 M514 hv => ?_) (fun _ _ _ q => q.elim)
                    clear hp
                    obtain ⟨rfl, hM514, hq514, hp⟩ := hv
                    dsimp only [Option.toList, List.cons_append, List.nil_append]
                    refine xJ_aload_n hX dL_randomRoad_517 rfl ?_
                    refine xJ_aload_n hX dL_randomRoad_518 rfl ?_
                    refine xJ_ldcS 20 hX dL_randomRoad_519 (by decide +kernel) ?_
                    obtain ⟨k521, hn521, hp⟩ := hp
                    refine xJ_callS (As := [_, _, _]) hX hB dL_randomRoad_521 lk_L_114 sm_L_write (c_L_write hM514 (xke_k hq514 (xke_k hq491 (xke_k hq469 (xke_k hq466 (xke_k hq439 hkx1 (by decide)) (by decide)) (by decide)) (by decide)) (by decide)) hp) (by decide) rfl rfl rfl (Nat.le_of_ble_eq_true rfl) (by omega) (by omega) (fun v t521 M521 hv => ?_) (fun _ _ _ q => q.elim)
                    clear hp
                    obtain ⟨rfl, hM521, hq521, hp⟩ := hv
                    dsimp only [Option.toList, List.cons_append, List.nil_append]
                    refine xJ_iinc hX dL_randomRoad_524 rfl rfl ?_
                    dsimp only [List.set]
                    obtain ⟨h524, hp⟩ := hp
                    refine xJ_goto hX dL_randomRoad_527 (tgt := 375) (by decide) ?_
                    refine xJ_fg 7 ?_
                    dsimp only [List.set]
                    exact ih375 _ _ _ _ _ _ _ _ _ _ _ _ (by omega) (by omega) hM521 (xke_trans (xke_trans (xke_trans (xke_trans (xke_trans (xke_trans hqE hq439) hq466) hq469) hq491) hq514) hq521) (xke_k hq521 (xke_k hq514 (xke_k hq491 (xke_k hq469 (xke_k hq466 (xke_k hq439 hkx1 (by decide)) (by decide)) (by decide)) (by decide)) (by decide)) (by decide)) (xke_k hq521 (xke_k hq514 (xke_k hq491 (xke_k hq469 (xke_k hq466 (xke_k hq439 hkx2 (by decide)) (by decide)) (by decide)) (by decide)) (by decide)) (by decide)) (xke_k hq521 (xke_k hq514 (xke_k hq491 (xke_k hq469 (xke_k hq466 (xke_k hq439 hkx3 (by decide)) (by decide)) (by decide)) (by decide)) (by decide)) (by decide)) hx4 hx5 h524 hp
                  refine xJ_if_ne hX dL_randomRoad_429 (tgt := 437) (by decide) h426 (fun c429 => ?_) (fun c429 => ?_)
                  · replace hp := hp.1 c429
                    refine xJ_bipush hX dL_randomRoad_437 rfl ?_
                    exact l439 _ _ _ _ _ _ _ _ _ _ _ _ _ _ _ _ _ _ _ _ (by omega) (by omega) hM426 (xke_trans (xke_trans hqE hq416) hq426) (xke_k hq426 (xke_k hq416 hkx1 (by decide)) (by decide)) (xke_k hq426 (xke_k hq416 hkx2 (by decide)) (by decide)) (xke_k hq426 (xke_k hq416 hkx3 (by decide)) (by decide)) hx4 hx5 hx6 ⟨by decide, by decide⟩ (xke_k hq426 (xke_k hq416 hkx2 (by decide)) (by decide)) ⟨by decide, by decide⟩ ⟨by decide, by decide⟩ (xke_k hq426 (xke_k hq416 hky4 (by decide)) (by decide)) (xke_k hq426 (xke_k hq416 hky4 (by decide)) (by decide)) (xke_k hq426 (xke_k hq416 hky5 (by decide)) (by decide)) (xke_k hq426 (xke_k hq416 hky6 (by decide)) (by decide)) hp
                  · replace hp := hp.2 c429
                    refine xJ_bipush hX dL_randomRoad_432 rfl ?_
                    refine xJ_goto hX dL_randomRoad_434 (tgt := 439) (by decide) ?_
                    exact l439 _ _ _ _ _ _ _ _ _ _ _ _ _ _ _ _ _ _ _ _ (by omega) (by omega) hM426 (xke_trans (xke_trans hqE hq416) hq426) (xke_k hq426 (xke_k hq416 hkx1 (by decide)) (by decide)) (xke_k hq426 (xke_k hq416 hkx2 (by decide)) (by decide)) (xke_k hq426 (xke_k hq416 hkx3 (by decide)) (by decide)) hx4 hx5 hx6 ⟨by decide, by decide⟩ (xke_k hq426 (xke_k hq416 hkx2 (by decide)) (by decide)) ⟨by decide, by decide⟩ ⟨by decide, by decide⟩ (xke_k hq426 (xke_k hq416 hky4 (by decide)) (by decide)) (xke_k hq426 (xke_k hq416 hky4 (by decide)) (by decide)) (xke_k hq426 (xke_k hq416 hky5 (by decide)) (by decide)) (xke_k hq426 (xke_k hq416 hky6 (by decide)) (by decide)) hp
                refine xJ_if_ne hX dL_randomRoad_406 (tgt := 414) (by decide) h403 (fun c406 => ?_) (fun c406 => ?_)
                · replace hp := hp.1 c406
                  refine xJ_bipush hX dL_randomRoad_414 rfl ?_
                  exact l416 _ _ _ _ _ _ _ _ _ _ _ _ _ _ _ _ _ _ _ (by omega) (by omega) hM403 (xke_trans (xke_trans (xke_trans hqE hq387) hq394) hq403) (xke_k hq403 (xke_k hq394 (xke_k hq387 hkx1 (by decide)) (by decide)) (by decide)) (xke_k hq403 (xke_k hq394 (xke_k hq387 hkx2 (by decide)) (by decide)) (by decide)) (xke_k hq403 (xke_k hq394 (xke_k hq387 hkx3 (by decide)) (by decide)) (by decide)) hx4 hx5 hx6 ⟨by decide, by decide⟩ (xke_k hq403 (xke_k hq394 (xke_k hq387 hkx2 (by decide)) (by decide)) (by decide)) ⟨by decide, by decide⟩ (xke_k hq403 (xke_k hq394 hka387 (by decide)) (by decide)) (xke_k hq403 (xke_k hq394 hka387 (by decide)) (by decide)) (xke_k hq403 (xke_k hq394 (xke_k hq387 hkb382 (by decide)) (by decide)) (by decide)) (xke_k hq403 (xke_k hq394 (xke_k hq387 hkx3 (by decide)) (by decide)) (by decide)) hp
                · replace hp := hp.2 c406
                  refine xJ_bipush hX dL_randomRoad_409 rfl ?_
                  refine xJ_goto hX dL_randomRoad_411 (tgt := 416) (by decide) ?_
                  exact l416 _ _ _ _ _ _ _ _ _ _ _ _ _ _ _ _ _ _ _ (by omega) (by omega) hM403 (xke_trans (xke_trans (xke_trans hqE hq387) hq394) hq403) (xke_k hq403 (xke_k hq394 (xke_k hq387 hkx1 (by decide)) (by decide)) (by decide)) (xke_k hq403 (xke_k hq394 (xke_k hq387 hkx2 (by decide)) (by decide)) (by decide)) (xke_k hq403 (xke_k hq394 (xke_k hq387 hkx3 (by decide)) (by decide)) (by decide)) hx4 hx5 hx6 ⟨by decide, by decide⟩ (xke_k hq403 (xke_k hq394 (xke_k hq387 hkx2 (by decide)) (by decide)) (by decide)) ⟨by decide, by decide⟩ (xke_k hq403 (xke_k hq394 hka387 (by decide)) (by decide)) (xke_k hq403 (xke_k hq394 hka387 (by decide)) (by decide)) (xke_k hq403 (xke_k hq394 (xke_k hq387 hkb382 (by decide)) (by decide)) (by decide)) (xke_k hq403 (xke_k hq394 (xke_k hq387 hkx3 (by decide)) (by decide)) (by decide)) hp
          exact l375 F _ _ _ _ _ _ _ _ _ _ _ _ (by omega) (by omega) hM hqE hkx1 hkx2 hkx3 hx4 hx5 hy0 hp
        refine xJ_if_ne hX dL_randomRoad_360 (tgt := 367) (by decide) h355 (fun c360 => ?_) (fun c360 => ?_)
        · replace hp := hp.1 c360
          refine xJ_aload_n hX dL_randomRoad_367 rfl ?_
          refine xJ_bipush hX dL_randomRoad_368 rfl ?_
          obtain ⟨k370, hn370, hp⟩ := hp
          refine xJ_callV (As := [_]) hX hB dL_randomRoad_370 lk_L_128 im_X13_below se_X13_below rfl (by decide) hkx2 (c_X13_below hM hkx2 ⟨by decide, by decide⟩ hp) (by decide) rfl rfl rfl (Nat.le_of_ble_eq_true rfl) (by omega) (by omega) (fun v t370 M370 hv => ?_) (fun _ _ _ q => q.elim)
          clear hp
          obtain ⟨r370, rfl, h370, hM370, hq370, hp⟩ := hv
          dsimp only [Option.toList, List.cons_append, List.nil_append]
          exact l373 _ _ _ _ _ _ _ _ _ _ _ _ (by omega) (by omega) hM370 (xke_trans hqE hq370) (xke_k hq370 hkx1 (by decide)) (xke_k hq370 hkx2 (by decide)) (xke_k hq370 hkx3 (by decide)) hx4 h355 h370 hp
        · replace hp := hp.2 c360
          refine xJ_iconst hX dL_randomRoad_363 ?_
          refine xJ_goto hX dL_randomRoad_364 (tgt := 373) (by decide) ?_
          exact l373 _ _ _ _ _ _ _ _ _ _ _ _ (by omega) (by omega) hM hqE hkx1 hkx2 hkx3 hx4 h355 ⟨by decide, by decide⟩ hp
      have l166 : ∀ (k166 : Nat) (c s n : Nat) (x0 : Nat) (x1 : Nat) (x2 : Nat) (x3 : Nat) (x4 : Int) (x5 : Int) (t : xTh) (M : xMe) (hc : c + n ≤ nE) (hs : s + 64 * n ≤ 64 * nE) (hM : xMR M) (hqE : xke tE t) (hkx1 : xk t x1 = 14) (hkx2 : xk t x2 = 19) (hkx3 : xk t x3 = 20) (hx4 : xR x4) (hx5 : xR x5) (hp : p_L_randomRoad_166 F G Q (p_L_randomRoad_351 F G Q) k166 n x0 x1 x2 x3 x4 x5 t M), xJ X c s t M 166 [vr x0, vr x1, vr x2, vr x3, vi x4, vi x5, vU, vU, vU] [] := by
        intro k166
        induction k166 with
        | zero => intro c s n x0 x1 x2 x3 x4 x5 t M hc hs hM hqE hkx1 hkx2 hkx3 hx4 hx5 hp; exact hp.elim
        | succ k166 ih166 =>
          intro c s n x0 x1 x2 x3 x4 x5 t M hc hs hM hqE hkx1 hkx2 hkx3 hx4 hx5 hp
          unfold p_L_randomRoad_166 at hp
          refine xJ_iload hX dL_randomRoad_166 rfl ?_
          refine xJ_if_le hX dL_randomRoad_168 (tgt := 351) (by decide) hx5 (fun c168 => ?_) (fun c168 => ?_)
          · replace hp := hp.1 c168
            refine xJ_fg 5 ?_
            dsimp only [List.set]
            exact l351 _ _ _ _ _ _ _ _ _ _ (by omega) (by omega) hM hqE hkx1 hkx2 hkx3 hx4 hp
          · replace hp := hp.2 c168
            refine xJ_aload_n hX dL_randomRoad_171 rfl ?_
            refine xJ_iload hX dL_randomRoad_172 rfl ?_
            obtain ⟨k174, hn174, hp⟩ := hp
            refine xJ_callV (As := [_]) hX hB dL_randomRoad_174 lk_L_128 im_X13_below se_X13_below rfl (by decide) hkx2 (c_X13_below hM hkx2 hx4 hp) (by decide) rfl rfl rfl (Nat.le_of_ble_eq_true rfl) (by omega) (by omega) (fun v t174 M174 hv => ?_) (fun _ _ _ q => q.elim)
            clear hp
            obtain ⟨r174, rfl, h174, hM174, hq174, hp⟩ := hv
            dsimp only [Option.toList, List.cons_append, List.nil_append]
            refine xJ_istore hX dL_randomRoad_177 (Nat.le_of_ble_eq_true rfl) rfl ?_
            dsimp only [List.set]
            refine xJ_iconst hX dL_randomRoad_179 ?_
            refine xJ_aload_n hX dL_randomRoad_180 rfl ?_
            refine xJ_iload hX dL_randomRoad_181 rfl ?_
            obtain ⟨k183, hn183, hp⟩ := hp
            refine xJ_callV (As := [_]) hX hB dL_randomRoad_183 lk_L_128 im_X13_below se_X13_below rfl (by decide) (xke_k hq174 hkx2 (by decide)) (c_X13_below hM174 (xke_k hq174 hkx2 (by decide)) hx4 hp) (by decide) rfl rfl rfl (Nat.le_of_ble_eq_true rfl) (by omega) (by omega) (fun v t183 M183 hv => ?_) (fun _ _ _ q => q.elim)
            clear hp
            obtain ⟨r183, rfl, h183, hM183, hq183, hp⟩ := hv
            dsimp only [Option.toList, List.cons_append, List.nil_append]
            refine xJ_iadd hX dL_randomRoad_186 ?_
            obtain ⟨h186, hp⟩ := hp
            obtain ⟨hl187, hp⟩ := hp
            obtain ⟨hn187, hp⟩ := hp
            refine xJ_newIE hX hB hM183 dL_randomRoad_187 ac_int hl187.1 (by omega) (by omega) (by omega) (fun a187 t187 M187 ea187 et187 e187 hM187 hq187 hka187 => ?_)
            replace hp := hp a187 t187 M187 ea187 et187 e187
            refine xJ_astore hX dL_randomRoad_189 (Nat.le_of_ble_eq_true rfl) rfl ?_
            dsimp only [List.set]
            refine xJ_iconst hX dL_randomRoad_191 ?_
            refine xJ_istore hX dL_randomRoad_192 (Nat.le_of_ble_eq_true rfl) rfl ?_
            dsimp only [List.set]
            have l221 : ∀ (c s n : Nat) (x0 : Nat) (x1 : Nat) (x2 : Nat) (x3 : Nat) (x4 : Int) (x5 : Int) (x7 : Nat) (t : xTh) (M : xMe) (hc : c + n ≤ nE) (hs : s + 64 * n ≤ 64 * nE) (hM : xMR M) (hqE : xke tE t) (hkx1 : xk t x1 = 14) (hkx2 : xk t x2 = 19) (hkx3 : xk t x3 = 20) (hx4 : xR x4) (hx5 : xR x5) (hkx7 : xk t x7 = 14) (hp : p_L_randomRoad_221 F G Q (p_L_randomRoad_166 F G Q (p_L_randomRoad_351 F G Q) k166) (p_L_randomRoad_351 F G Q) n x0 x1 x2 x3 x4 x5 x7 t M), xJ X c s t M 221 [vr x0, vr x1, vr x2, vr x3, vi x4, vi x5, vU, vr x7, vU] [] := by
              intro c s n x0 x1 x2 x3 x4 x5 x7 t M hc hs hM hqE hkx1 hkx2 hkx3 hx4 hx5 hkx7 hp
              unfold p_L_randomRoad_221 at hp
              refine xJ_aload_n hX dL_randomRoad_221 rfl ?_
              refine xJ_aload_n hX dL_randomRoad_222 rfl ?_
              obtain ⟨b223, e223, hkb223, hp⟩ := hp
              refine xJ_getR (b := b223) hX dL_randomRoad_223 fd_L_148 rfl hkx3 e223 ?_
              refine xJ_aload hX dL_randomRoad_226 rfl ?_
              obtain ⟨k228, hn228, hp⟩ := hp
              refine xJ_callS (As := [_, _]) hX hB dL_randomRoad_228 lk_L_137 sm_L_with (c_L_with hM hkb223 hkx7 hp) (by decide) rfl rfl rfl (Nat.le_of_ble_eq_true rfl) (by omega) (by omega) (fun v t228 M228 hv => ?_) (fun _ _ _ q => q.elim)
              clear hp
              obtain ⟨r228, rfl, hk228, hM228, hq228, hp⟩ := hv
              dsimp only [Option.toList, List.cons_append, List.nil_append]
              refine xJ_putRE (x := (some r228)) hX dL_randomRoad_231 fd_L_148 ft_X14 rfl rfl rfl rfl (xke_k hq228 hkx3 (by decide)) (fun t231 et231 hq231 => ?_)
              replace hp := hp t231 et231
              refine xJ_aload_n hX dL_randomRoad_234 rfl ?_
              refine xJ_aload_n hX dL_randomRoad_235 rfl ?_
              obtain ⟨b236, e236, hkb236, hp⟩ := hp
              refine xJ_getR (b := b236) hX dL_randomRoad_236 fd_L_151 rfl (xke_k hq231 (xke_k hq228 hkx3 (by decide)) (by decide)) e236 ?_
              refine xJ_iconst hX dL_randomRoad_239 ?_
              obtain ⟨hn240, hp⟩ := hp
              refine xJ_newIE hX hB hM228 dL_randomRoad_240 ac_int (by decide) (by decide) (by omega) (by omega) (fun a240 t240 M240 ea240 et240 e240 hM240 hq240 hka240 => ?_)
              replace hp := hp a240 t240 M240 ea240 et240 e240
              refine xJ_dup hX dL_randomRoad_242 rfl ?_
              refine xJ_iconst hX dL_randomRoad_243 ?_
              refine xJ_aload_n hX dL_randomRoad_244 rfl ?_
              refine xJ_iconst hX dL_randomRoad_245 ?_
              obtain ⟨k246, hn246, hp⟩ := hp
              refine xJ_callV (As := [_]) hX hB dL_randomRoad_246 lk_L_128 im_X13_below se_X13_below rfl (by decide) (xke_k hq240 (xke_k hq231 (xke_k hq228 hkx2 (by decide)) (by decide)) (by decide)) (c_X13_below hM240 (xke_k hq240 (xke_k hq231 (xke_k hq228 hkx2 (by decide)) (by decide)) (by decide)) ⟨by decide, by decide⟩ hp) (by decide) rfl rfl rfl (Nat.le_of_ble_eq_true rfl) (by omega) (by omega) (fun v t246 M246 hv => ?_) (fun _ _ _ q => q.elim)
              clear hp
              obtain ⟨r246, rfl, h246, hM246, hq246, hp⟩ := hv
              dsimp only [Option.toList, List.cons_append, List.nil_append]
              have l262 : ∀ (c s n : Nat) (x0 : Nat) (x1 : Nat) (x2 : Nat) (x3 : Nat) (x4 : Int) (x5 : Int) (x7 : Nat) (y0 : Int) (y1 : Int) (y2 : Nat) (y3 : Nat) (y4 : Nat) (y5 : Nat) (t : xTh) (M : xMe) (hc : c + n ≤ nE) (hs : s + 64 * n ≤ 64 * nE) (hM : xMR M) (hqE : xke tE t) (hkx1 : xk t x1 = 14) (hkx2 : xk t x2 = 19) (hkx3 : xk t x3 = 20) (hx4 : xR x4) (hx5 : xR x5) (hkx7 : xk t x7 = 14) (hy0 : xR y0) (hy1 : xR y1) (hky2 : xk t y2 = 14) (hky3 : xk t y3 = 14) (hky4 : xk t y4 = 17) (hky5 : xk t y5 = 20) (hp : p_L_randomRoad_262 F G Q (p_L_randomRoad_166 F G Q (p_L_randomRoad_351 F G Q) k166) (p_L_randomRoad_351 F G Q) n x0 x1 x2 x3 x4 x5 x7 y0 y1 y2 y3 y4 y5 t M), xJ X c s t M 262 [vr x0, vr x1, vr x2, vr x3, vi x4, vi x5, vU, vr x7, vU] [vi y0, vi y1, vr y2, vr y3, vr y4, vr y5] := by
                intro c s n x0 x1 x2 x3 x4 x5 x7 y0 y1 y2 y3 y4 y5 t M hc hs hM hqE hkx1 hkx2 hkx3 hx4 hx5 hkx7 hy0 hy1 hky2 hky3 hky4 hky5 hp
                unfold p_L_randomRoad_262 at hp
                obtain ⟨h262, hp⟩ := hp
                refine xJ_iastM hX dL_randomRoad_262 hky2 h262.1 h262.2 hM hy0 (fun M262 e262 hM262 => ?_)
                replace hp := hp M262 e262
                refine xJ_dup hX dL_randomRoad_263 rfl ?_
                refine xJ_iconst hX dL_randomRoad_264 ?_
                refine xJ_iconst hX dL_randomRoad_265 ?_
                obtain ⟨h266, hp⟩ := hp
                refine xJ_iastM hX dL_randomRoad_266 hky3 h266.1 h266.2 hM262 ⟨by decide, by decide⟩ (fun M266 e266 hM266 => ?_)
                replace hp := hp M266 e266
                refine xJ_dup hX dL_randomRoad_267 rfl ?_
                refine xJ_iconst hX dL_randomRoad_268 ?_
                refine xJ_iconst hX dL_randomRoad_269 ?_
                obtain ⟨h270, hp⟩ := hp
                refine xJ_iastM hX dL_randomRoad_270 hky3 h270.1 h270.2 hM266 ⟨by decide, by decide⟩ (fun M270 e270 hM270 => ?_)
                replace hp := hp M270 e270
                obtain ⟨k271, hn271, hp⟩ := hp
                refine xJ_callS (As := [_, _]) hX hB dL_randomRoad_271 lk_L_137 sm_L_with (c_L_with hM270 hky4 hky3 hp) (by decide) rfl rfl rfl (Nat.le_of_ble_eq_true rfl) (by omega) (by omega) (fun v t271 M271 hv => ?_) (fun _ _ _ q => q.elim)
                clear hp
                obtain ⟨r271, rfl, hk271, hM271, hq271, hp⟩ := hv
                dsimp only [Option.toList, List.cons_append, List.nil_append]
                refine xJ_putRE (x := (some r271)) hX dL_randomRoad_274 fd_L_151 ft_X14 rfl rfl rfl rfl (xke_k hq271 hky5 (by decide)) (fun t274 et274 hq274 => ?_)
                replace hp := hp t274 et274
                refine xJ_aload_n hX dL_randomRoad_277 rfl ?_
                refine xJ_aload_n hX dL_randomRoad_278 rfl ?_
                refine xJ_ldcS 2 hX dL_randomRoad_279 (by decide +kernel) ?_
                refine xJ_aload hX dL_randomRoad_281 rfl ?_
                obtain ⟨k283, hn283, hp⟩ := hp
                refine xJ_callS (As := [_, _, _, _]) hX hB dL_randomRoad_283 lk_L_142 sm_L_writeNumbers (c_L_writeNumbers hM271 (xke_k hq274 (xke_k hq271 hkx1 (by decide)) (by decide)) (xke_k hq274 (xke_k hq271 hkx7 (by decide)) (by decide)) hp) (by decide) rfl rfl rfl (Nat.le_of_ble_eq_true rfl) (by omega) (by omega) (fun v t283 M283 hv => ?_) (fun _ _ _ q => q.elim)
                clear hp
                obtain ⟨rfl, hM283, hq283, hp⟩ := hv
                dsimp only [Option.toList, List.cons_append, List.nil_append]
                refine xJ_aload_n hX dL_randomRoad_286 rfl ?_
                obtain ⟨b287, e287, hkb287, hp⟩ := hp
                refine xJ_getR (b := b287) hX dL_randomRoad_287 fd_L_151 rfl (xke_k hq283 (xke_k hq274 (xke_k hq271 hkx3 (by decide)) (by decide)) (by decide)) e287 ?_
                refine xJ_aload_n hX dL_randomRoad_290 rfl ?_
                refine xJ_getR (b := b287) hX dL_randomRoad_291 fd_L_151 rfl (xke_k hq283 (xke_k hq274 (xke_k hq271 hkx3 (by decide)) (by decide)) (by decide)) e287 ?_
                refine xJ_alen hX dL_randomRoad_294 (by rw [hkb287]; decide) (by rw [hkb287]; decide) ?_
                obtain ⟨h294, hp⟩ := hp
                refine xJ_iconst hX dL_randomRoad_295 ?_
                refine xJ_isub hX dL_randomRoad_296 ?_
                obtain ⟨h296, hp⟩ := hp
                obtain ⟨h297, hp⟩ := hp
                obtain ⟨b297, e297, hkb297, hp⟩ := hp
                refine xJ_aaldOb hX dL_randomRoad_297 hkb287 h297.1 h297.2 e297 ?_
                refine xJ_iconst hX dL_randomRoad_298 ?_
                obtain ⟨h299, hp⟩ := hp
                refine xJ_iald hX dL_randomRoad_299 hkb297 h299.1 h299.2 ?_
                refine xJ_if_gt hX dL_randomRoad_300 (tgt := 311) (by decide) (hM283 _ _) (fun c300 => ?_) (fun c300 => ?_)
                · replace hp := hp.1 c300
                  refine xJ_aload_n hX dL_randomRoad_311 rfl ?_
                  refine xJ_aload_n hX dL_randomRoad_312 rfl ?_
                  refine xJ_ldcS 21 hX dL_randomRoad_313 (by decide +kernel) ?_
                  refine xJ_iconst hX dL_randomRoad_315 ?_
                  obtain ⟨hn316, hp⟩ := hp
                  refine xJ_newIE hX hB hM283 dL_randomRoad_316 ac_int (by decide) (by decide) (by omega) (by omega) (fun a316 t316 M316 ea316 et316 e316 hM316 hq316 hka316 => ?_)
                  replace hp := hp a316 t316 M316 ea316 et316 e316
                  refine xJ_dup hX dL_randomRoad_318 rfl ?_
                  refine xJ_iconst hX dL_randomRoad_319 ?_
                  refine xJ_aload_n hX dL_randomRoad_320 rfl ?_
                  obtain ⟨b321, e321, hkb321, hp⟩ := hp
                  refine xJ_getR (b := b321) hX dL_randomRoad_321 fd_L_151 rfl (xke_k hq316 (xke_k hq283 (xke_k hq274 (xke_k hq271 hkx3 (by decide)) (by decide)) (by decide)) (by decide)) e321 ?_
                  refine xJ_aload_n hX dL_randomRoad_324 rfl ?_
                  refine xJ_getR (b := b321) hX dL_randomRoad_325 fd_L_151 rfl (xke_k hq316 (xke_k hq283 (xke_k hq274 (xke_k hq271 hkx3 (by decide)) (by decide)) (by decide)) (by decide)) e321 ?_
                  refine xJ_alen hX dL_randomRoad_328 (by rw [hkb321]; decide) (by rw [hkb321]; decide) ?_
                  obtain ⟨h328, hp⟩ := hp
                  refine xJ_iconst hX dL_randomRoad_329 ?_
                  refine xJ_isub hX dL_randomRoad_330 ?_
                  obtain ⟨h330, hp⟩ := hp
                  obtain ⟨h331, hp⟩ := hp
                  obtain ⟨b331, e331, hkb331, hp⟩ := hp
                  refine xJ_aaldOb hX dL_randomRoad_331 hkb321 h331.1 h331.2 e331 ?_
                  refine xJ_iconst hX dL_randomRoad_332 ?_
                  obtain ⟨h333, hp⟩ := hp
                  refine xJ_iald hX dL_randomRoad_333 hkb331 h333.1 h333.2 ?_
                  obtain ⟨h334, hp⟩ := hp
                  refine xJ_iastM hX dL_randomRoad_334 hka316 h334.1 h334.2 hM316 (hM316 _ _) (fun M334 e334 hM334 => ?_)
                  replace hp := hp M334 e334
                  obtain ⟨k335, hn335, hp⟩ := hp
                  refine xJ_callS (As := [_, _, _, _]) hX hB dL_randomRoad_335 lk_L_142 sm_L_writeNumbers (c_L_writeNumbers hM334 (xke_k hq316 (xke_k hq283 (xke_k hq274 (xke_k hq271 hkx1 (by decide)) (by decide)) (by decide)) (by decide)) hka316 hp) (by decide) rfl rfl rfl (Nat.le_of_ble_eq_true rfl) (by omega) (by omega) (fun v t335 M335 hv => ?_) (fun _ _ _ q => q.elim)
                  clear hp
                  obtain ⟨rfl, hM335, hq335, hp⟩ := hv
                  dsimp only [Option.toList, List.cons_append, List.nil_append]
                  refine xJ_aload_n hX dL_randomRoad_338 rfl ?_
                  refine xJ_aload_n hX dL_randomRoad_339 rfl ?_
                  refine xJ_ldcS 20 hX dL_randomRoad_340 (by decide +kernel) ?_
                  obtain ⟨k342, hn342, hp⟩ := hp
                  refine xJ_callS (As := [_, _, _]) hX hB dL_randomRoad_342 lk_L_114 sm_L_write (c_L_write hM335 (xke_k hq335 (xke_k hq316 (xke_k hq283 (xke_k hq274 (xke_k hq271 hkx1 (by decide)) (by decide)) (by decide)) (by decide)) (by decide)) hp) (by decide) rfl rfl rfl (Nat.le_of_ble_eq_true rfl) (by omega) (by omega) (fun v t342 M342 hv => ?_) (fun _ _ _ q => q.elim)
                  clear hp
                  obtain ⟨rfl, hM342, hq342, hp⟩ := hv
                  dsimp only [Option.toList, List.cons_append, List.nil_append]
                  refine xJ_iinc hX dL_randomRoad_345 rfl rfl ?_
                  dsimp only [List.set]
                  obtain ⟨h345, hp⟩ := hp
                  refine xJ_goto hX dL_randomRoad_348 (tgt := 166) (by decide) ?_
                  refine xJ_fg 7 ?_
                  dsimp only [List.set]
                  exact ih166 _ _ _ _ _ _ _ _ _ _ _ (by omega) (by omega) hM342 (xke_trans (xke_trans (xke_trans (xke_trans (xke_trans (xke_trans hqE hq271) hq274) hq283) hq316) hq335) hq342) (xke_k hq342 (xke_k hq335 (xke_k hq316 (xke_k hq283 (xke_k hq274 (xke_k hq271 hkx1 (by decide)) (by decide)) (by decide)) (by decide)) (by decide)) (by decide)) (xke_k hq342 (xke_k hq335 (xke_k hq316 (xke_k hq283 (xke_k hq274 (xke_k hq271 hkx2 (by decide)) (by decide)) (by decide)) (by decide)) (by decide)) (by decide)) (xke_k hq342 (xke_k hq335 (xke_k hq316 (xke_k hq283 (xke_k hq274 (xke_k hq271 hkx3 (by decide)) (by decide)) (by decide)) (by decide)) (by decide)) (by decide)) hx4 h345 hp
                · replace hp := hp.2 c300
                  refine xJ_aload_n hX dL_randomRoad_303 rfl ?_
                  refine xJ_iconst hX dL_randomRoad_304 ?_
                  obtain ⟨k305, hn305, hp⟩ := hp
                  refine xJ_callV (As := [_]) hX hB dL_randomRoad_305 lk_L_128 im_X13_below se_X13_below rfl (by decide) (xke_k hq283 (xke_k hq274 (xke_k hq271 hkx2 (by decide)) (by decide)) (by decide)) (c_X13_below hM283 (xke_k hq283 (xke_k hq274 (xke_k hq271 hkx2 (by decide)) (by decide)) (by decide)) ⟨by decide, by decide⟩ hp) (by decide) rfl rfl rfl (Nat.le_of_ble_eq_true rfl) (by omega) (by omega) (fun v t305 M305 hv => ?_) (fun _ _ _ q => q.elim)
                  clear hp
                  obtain ⟨r305, rfl, h305, hM305, hq305, hp⟩ := hv
                  dsimp only [Option.toList, List.cons_append, List.nil_append]
                  refine xJ_if_ne hX dL_randomRoad_308 (tgt := 338) (by decide) h305 (fun c308 => ?_) (fun c308 => ?_)
                  · replace hp := hp.1 c308
                    refine xJ_aload_n hX dL_randomRoad_338 rfl ?_
                    refine xJ_aload_n hX dL_randomRoad_339 rfl ?_
                    refine xJ_ldcS 20 hX dL_randomRoad_340 (by decide +kernel) ?_
                    obtain ⟨k342, hn342, hp⟩ := hp
                    refine xJ_callS (As := [_, _, _]) hX hB dL_randomRoad_342 lk_L_114 sm_L_write (c_L_write hM305 (xke_k hq305 (xke_k hq283 (xke_k hq274 (xke_k hq271 hkx1 (by decide)) (by decide)) (by decide)) (by decide)) hp) (by decide) rfl rfl rfl (Nat.le_of_ble_eq_true rfl) (by omega) (by omega) (fun v t342 M342 hv => ?_) (fun _ _ _ q => q.elim)
                    clear hp
                    obtain ⟨rfl, hM342, hq342, hp⟩ := hv
                    dsimp only [Option.toList, List.cons_append, List.nil_append]
                    refine xJ_iinc hX dL_randomRoad_345 rfl rfl ?_
                    dsimp only [List.set]
                    obtain ⟨h345, hp⟩ := hp
                    refine xJ_goto hX dL_randomRoad_348 (tgt := 166) (by decide) ?_
                    refine xJ_fg 7 ?_
                    dsimp only [List.set]
                    exact ih166 _ _ _ _ _ _ _ _ _ _ _ (by omega) (by omega) hM342 (xke_trans (xke_trans (xke_trans (xke_trans (xke_trans hqE hq271) hq274) hq283) hq305) hq342) (xke_k hq342 (xke_k hq305 (xke_k hq283 (xke_k hq274 (xke_k hq271 hkx1 (by decide)) (by decide)) (by decide)) (by decide)) (by decide)) (xke_k hq342 (xke_k hq305 (xke_k hq283 (xke_k hq274 (xke_k hq271 hkx2 (by decide)) (by decide)) (by decide)) (by decide)) (by decide)) (xke_k hq342 (xke_k hq305 (xke_k hq283 (xke_k hq274 (xke_k hq271 hkx3 (by decide)) (by decide)) (by decide)) (by decide)) (by decide)) hx4 h345 hp
                  · replace hp := hp.2 c308
                    refine xJ_aload_n hX dL_randomRoad_311 rfl ?_
                    refine xJ_aload_n hX dL_randomRoad_312 rfl ?_
                    refine xJ_ldcS 21 hX dL_randomRoad_313 (by decide +kernel) ?_
                    refine xJ_iconst hX dL_randomRoad_315 ?_
                    obtain ⟨hn316, hp⟩ := hp
                    refine xJ_newIE hX hB hM305 dL_randomRoad_316 ac_int (by decide) (by decide) (by omega) (by omega) (fun a316 t316 M316 ea316 et316 e316 hM316 hq316 hka316 => ?_)
                    replace hp := hp a316 t316 M316 ea316 et316 e316
                    refine xJ_dup hX dL_randomRoad_318 rfl ?_
                    refine xJ_iconst hX dL_randomRoad_319 ?_
                    refine xJ_aload_n hX dL_randomRoad_320 rfl ?_
                    obtain ⟨b321, e321, hkb321, hp⟩ := hp
                    refine xJ_getR (b := b321) hX dL_randomRoad_321 fd_L_151 rfl (xke_k hq316 (xke_k hq305 (xke_k hq283 (xke_k hq274 (xke_k hq271 hkx3 (by decide)) (by decide)) (by decide)) (by decide)) (by decide)) e321 ?_
                    refine xJ_aload_n hX dL_randomRoad_324 rfl ?_
                    refine xJ_getR (b := b321) hX dL_randomRoad_325 fd_L_151 rfl (xke_k hq316 (xke_k hq305 (xke_k hq283 (xke_k hq274 (xke_k hq271 hkx3 (by decide)) (by decide)) (by decide)) (by decide)) (by decide)) e321 ?_
                    refine xJ_alen hX dL_randomRoad_328 (by rw [hkb321]; decide) (by rw [hkb321]; decide) ?_
                    obtain ⟨h328, hp⟩ := hp
                    refine xJ_iconst hX dL_randomRoad_329 ?_
                    refine xJ_isub hX dL_randomRoad_330 ?_
                    obtain ⟨h330, hp⟩ := hp
                    obtain ⟨h331, hp⟩ := hp
                    obtain ⟨b331, e331, hkb331, hp⟩ := hp
                    refine xJ_aaldOb hX dL_randomRoad_331 hkb321 h331.1 h331.2 e331 ?_
                    refine xJ_iconst hX dL_randomRoad_332 ?_
                    obtain ⟨h333, hp⟩ := hp
                    refine xJ_iald hX dL_randomRoad_333 hkb331 h333.1 h333.2 ?_
                    obtain ⟨h334, hp⟩ := hp
                    refine xJ_iastM hX dL_randomRoad_334 hka316 h334.1 h334.2 hM316 (hM316 _ _) (fun M334 e334 hM334 => ?_)
                    replace hp := hp M334 e334
                    obtain ⟨k335, hn335, hp⟩ := hp
                    refine xJ_callS (As := [_, _, _, _]) hX hB dL_randomRoad_335 lk_L_142 sm_L_writeNumbers (c_L_writeNumbers hM334 (xke_k hq316 (xke_k hq305 (xke_k hq283 (xke_k hq274 (xke_k hq271 hkx1 (by decide)) (by decide)) (by decide)) (by decide)) (by decide)) hka316 hp) (by decide) rfl rfl rfl (Nat.le_of_ble_eq_true rfl) (by omega) (by omega) (fun v t335 M335 hv => ?_) (fun _ _ _ q => q.elim)
                    clear hp
                    obtain ⟨rfl, hM335, hq335, hp⟩ := hv
                    dsimp only [Option.toList, List.cons_append, List.nil_append]
                    refine xJ_aload_n hX dL_randomRoad_338 rfl ?_
                    refine xJ_aload_n hX dL_randomRoad_339 rfl ?_
                    refine xJ_ldcS 20 hX dL_randomRoad_340 (by decide +kernel) ?_
                    obtain ⟨k342, hn342, hp⟩ := hp
                    refine xJ_callS (As := [_, _, _]) hX hB dL_randomRoad_342 lk_L_114 sm_L_write (c_L_write hM335 (xke_k hq335 (xke_k hq316 (xke_k hq305 (xke_k hq283 (xke_k hq274 (xke_k hq271 hkx1 (by decide)) (by decide)) (by decide)) (by decide)) (by decide)) (by decide)) hp) (by decide) rfl rfl rfl (Nat.le_of_ble_eq_true rfl) (by omega) (by omega) (fun v t342 M342 hv => ?_) (fun _ _ _ q => q.elim)
                    clear hp
                    obtain ⟨rfl, hM342, hq342, hp⟩ := hv
                    dsimp only [Option.toList, List.cons_append, List.nil_append]
                    refine xJ_iinc hX dL_randomRoad_345 rfl rfl ?_
                    dsimp only [List.set]
                    obtain ⟨h345, hp⟩ := hp
                    refine xJ_goto hX dL_randomRoad_348 (tgt := 166) (by decide) ?_
                    refine xJ_fg 7 ?_
                    dsimp only [List.set]
                    exact ih166 _ _ _ _ _ _ _ _ _ _ _ (by omega) (by omega) hM342 (xke_trans (xke_trans (xke_trans (xke_trans (xke_trans (xke_trans (xke_trans hqE hq271) hq274) hq283) hq305) hq316) hq335) hq342) (xke_k hq342 (xke_k hq335 (xke_k hq316 (xke_k hq305 (xke_k hq283 (xke_k hq274 (xke_k hq271 hkx1 (by decide)) (by decide)) (by decide)) (by decide)) (by decide)) (by decide)) (by decide)) (xke_k hq342 (xke_k hq335 (xke_k hq316 (xke_k hq305 (xke_k hq283 (xke_k hq274 (xke_k hq271 hkx2 (by decide)) (by decide)) (by decide)) (by decide)) (by decide)) (by decide)) (by decide)) (xke_k hq342 (xke_k hq335 (xke_k hq316 (xke_k hq305 (xke_k hq283 (xke_k hq274 (xke_k hq271 hkx3 (by decide)) (by decide)) (by decide)) (by decide)) (by decide)) (by decide)) (by decide)) hx4 h345 hp
              refine xJ_if_ne hX dL_randomRoad_249 (tgt := 256) (by decide) h246 (fun c249 => ?_) (fun c249 => ?_)
              · replace hp := hp.1 c249
                refine xJ_aload_n hX dL_randomRoad_256 rfl ?_
                refine xJ_bipush hX dL_randomRoad_257 rfl ?_
                obtain ⟨k259, hn259, hp⟩ := hp
                refine xJ_callV (As := [_]) hX hB dL_randomRoad_259 lk_L_128 im_X13_below se_X13_below rfl (by decide) (xke_k hq246 (xke_k hq240 (xke_k hq231 (xke_k hq228 hkx2 (by decide)) (by decide)) (by decide)) (by decide)) (c_X13_below hM246 (xke_k hq246 (xke_k hq240 (xke_k hq231 (xke_k hq228 hkx2 (by decide)) (by decide)) (by decide)) (by decide)) ⟨by decide, by decide⟩ hp) (by decide) rfl rfl rfl (Nat.le_of_ble_eq_true rfl) (by omega) (by omega) (fun v t259 M259 hv => ?_) (fun _ _ _ q => q.elim)
                clear hp
                obtain ⟨r259, rfl, h259, hM259, hq259, hp⟩ := hv
                dsimp only [Option.toList, List.cons_append, List.nil_append]
                exact l262 _ _ _ _ _ _ _ _ _ _ _ _ _ _ _ _ _ _ (by omega) (by omega) hM259 (xke_trans (xke_trans (xke_trans (xke_trans (xke_trans hqE hq228) hq231) hq240) hq246) hq259) (xke_k hq259 (xke_k hq246 (xke_k hq240 (xke_k hq231 (xke_k hq228 hkx1 (by decide)) (by decide)) (by decide)) (by decide)) (by decide)) (xke_k hq259 (xke_k hq246 (xke_k hq240 (xke_k hq231 (xke_k hq228 hkx2 (by decide)) (by decide)) (by decide)) (by decide)) (by decide)) (xke_k hq259 (xke_k hq246 (xke_k hq240 (xke_k hq231 (xke_k hq228 hkx3 (by decide)) (by decide)) (by decide)) (by decide)) (by decide)) hx4 hx5 (xke_k hq259 (xke_k hq246 (xke_k hq240 (xke_k hq231 (xke_k hq228 hkx7 (by decide)) (by decide)) (by decide)) (by decide)) (by decide)) h259 ⟨by decide, by decide⟩ (xke_k hq259 (xke_k hq246 hka240 (by decide)) (by decide)) (xke_k hq259 (xke_k hq246 hka240 (by decide)) (by decide)) (xke_k hq259 (xke_k hq246 (xke_k hq240 hkb236 (by decide)) (by decide)) (by decide)) (xke_k hq259 (xke_k hq246 (xke_k hq240 (xke_k hq231 (xke_k hq228 hkx3 (by decide)) (by decide)) (by decide)) (by decide)) (by decide)) hp
              · replace hp := hp.2 c249
                refine xJ_iconst hX dL_randomRoad_252 ?_
                refine xJ_goto hX dL_randomRoad_253 (tgt := 262) (by decide) ?_
                exact l262 _ _ _ _ _ _ _ _ _ _ _ _ _ _ _ _ _ _ (by omega) (by omega) hM246 (xke_trans (xke_trans (xke_trans (xke_trans hqE hq228) hq231) hq240) hq246) (xke_k hq246 (xke_k hq240 (xke_k hq231 (xke_k hq228 hkx1 (by decide)) (by decide)) (by decide)) (by decide)) (xke_k hq246 (xke_k hq240 (xke_k hq231 (xke_k hq228 hkx2 (by decide)) (by decide)) (by decide)) (by decide)) (xke_k hq246 (xke_k hq240 (xke_k hq231 (xke_k hq228 hkx3 (by decide)) (by decide)) (by decide)) (by decide)) hx4 hx5 (xke_k hq246 (xke_k hq240 (xke_k hq231 (xke_k hq228 hkx7 (by decide)) (by decide)) (by decide)) (by decide)) ⟨by decide, by decide⟩ ⟨by decide, by decide⟩ (xke_k hq246 hka240 (by decide)) (xke_k hq246 hka240 (by decide)) (xke_k hq246 (xke_k hq240 hkb236 (by decide)) (by decide)) (xke_k hq246 (xke_k hq240 (xke_k hq231 (xke_k hq228 hkx3 (by decide)) (by decide)) (by decide)) (by decide)) hp
            have l194 : ∀ (k194 : Nat) (c s n : Nat) (x0 : Nat) (x1 : Nat) (x2 : Nat) (x3 : Nat) (x4 : Int) (x5 : Int) (x6 : Int) (x7 : Nat) (x8 : Int) (t : xTh) (M : xMe) (hc : c + n ≤ nE) (hs : s + 64 * n ≤ 64 * nE) (hM : xMR M) (hqE : xke tE t) (hkx1 : xk t x1 = 14) (hkx2 : xk t x2 = 19) (hkx3 : xk t x3 = 20) (hx4 : xR x4) (hx5 : xR x5) (hx6 : xR x6) (hkx7 : xk t x7 = 14) (hx8 : xR x8) (hp : p_L_randomRoad_194 F G Q (p_L_randomRoad_166 F G Q (p_L_randomRoad_351 F G Q) k166) (p_L_randomRoad_221 F G Q (p_L_randomRoad_166 F G Q (p_L_randomRoad_351 F G Q) k166) (p_L_randomRoad_351 F G Q)) (p_L_randomRoad_351 F G Q) k194 n x0 x1 x2 x3 x4 x5 x6 x7 x8 t M), xJ X c s t M 194 [vr x0, vr x1, vr x2, vr x3, vi x4, vi x5, vi x6, vr x7, vi x8] [] := by
              intro k194
              induction k194 with
              | zero => intro c s n x0 x1 x2 x3 x4 x5 x6 x7 x8 t M hc hs hM hqE hkx1 hkx2 hkx3 hx4 hx5 hx6 hkx7 hx8 hp; exact hp.elim
              | succ k194 ih194 =>
                intro c s n x0 x1 x2 x3 x4 x5 x6 x7 x8 t M hc hs hM hqE hkx1 hkx2 hkx3 hx4 hx5 hx6 hkx7 hx8 hp
                unfold p_L_randomRoad_194 at hp
                refine xJ_iload hX dL_randomRoad_194 rfl ?_
                refine xJ_aload hX dL_randomRoad_196 rfl ?_
                refine xJ_alen hX dL_randomRoad_198 (by rw [hkx7]; decide) (by rw [hkx7]; decide) ?_
                obtain ⟨h198, hp⟩ := hp
                refine xJ_icmp_ge hX dL_randomRoad_199 (tgt := 221) (by decide) hx8 h198 (fun c199 => ?_) (fun c199 => ?_)
                · replace hp := hp.1 c199
                  refine xJ_fg 6 ?_
                  dsimp only [List.set]
                  refine xJ_fg 8 ?_
                  dsimp only [List.set]
                  exact l221 _ _ _ _ _ _ _ _ _ _ _ _ (by omega) (by omega) hM hqE hkx1 hkx2 hkx3 hx4 hx5 hkx7 hp
                · replace hp := hp.2 c199
                  refine xJ_aload hX dL_randomRoad_202 rfl ?_
                  refine xJ_iload hX dL_randomRoad_204 rfl ?_
                  refine xJ_iload hX dL_randomRoad_206 rfl ?_
                  refine xJ_iload hX dL_randomRoad_208 rfl ?_
                  refine xJ_iadd hX dL_randomRoad_210 ?_
                  obtain ⟨h210, hp⟩ := hp
                  refine xJ_iload hX dL_randomRoad_211 rfl ?_
                  obtain ⟨h213, hp⟩ := hp
                  refine xJ_irem hX dL_randomRoad_213 h210 hx4 h213.1 ?_
                  obtain ⟨h214, hp⟩ := hp
                  refine xJ_iastM hX dL_randomRoad_214 hkx7 h214.1 h214.2 hM h213.2 (fun M214 e214 hM214 => ?_)
                  replace hp := hp M214 e214
                  refine xJ_iinc hX dL_randomRoad_215 rfl rfl ?_
                  dsimp only [List.set]
                  obtain ⟨h215, hp⟩ := hp
                  refine xJ_goto hX dL_randomRoad_218 (tgt := 194) (by decide) ?_
                  exact ih194 _ _ _ _ _ _ _ _ _ _ _ _ _ _ (by omega) (by omega) hM214 hqE hkx1 hkx2 hkx3 hx4 hx5 hx6 hkx7 h215 hp
            exact l194 F _ _ _ _ _ _ _ _ _ _ _ _ _ _ (by omega) (by omega) hM187 (xke_trans (xke_trans (xke_trans hqE hq174) hq183) hq187) (xke_k hq187 (xke_k hq183 (xke_k hq174 hkx1 (by decide)) (by decide)) (by decide)) (xke_k hq187 (xke_k hq183 (xke_k hq174 hkx2 (by decide)) (by decide)) (by decide)) (xke_k hq187 (xke_k hq183 (xke_k hq174 hkx3 (by decide)) (by decide)) (by decide)) hx4 hx5 h174 hka187 ⟨by decide, by decide⟩ hp
      exact l166 F _ _ _ _ _ _ _ _ _ _ _ (by omega) (by omega) hM hqE hkx1 hkx2 hkx3 hx4 hy0 hp
    refine xJ_if_ne hX dL_randomRoad_152 (tgt := 159) (by decide) h147 (fun c152 => ?_) (fun c152 => ?_)
    · replace hp := hp.1 c152
      refine xJ_aload_n hX dL_randomRoad_159 rfl ?_
      refine xJ_iconst hX dL_randomRoad_160 ?_
      obtain ⟨k161, hn161, hp⟩ := hp
      refine xJ_callV (As := [_]) hX hB dL_randomRoad_161 lk_L_128 im_X13_below se_X13_below rfl (by decide) hkx2 (c_X13_below hM hkx2 ⟨by decide, by decide⟩ hp) (by decide) rfl rfl rfl (Nat.le_of_ble_eq_true rfl) (by omega) (by omega) (fun v t161 M161 hv => ?_) (fun _ _ _ q => q.elim)
      clear hp
      obtain ⟨r161, rfl, h161, hM161, hq161, hp⟩ := hv
      dsimp only [Option.toList, List.cons_append, List.nil_append]
      exact l164 _ _ _ _ _ _ _ _ _ _ _ (by omega) (by omega) hM161 (xke_trans hqE hq161) (xke_k hq161 hkx1 (by decide)) (xke_k hq161 hkx2 (by decide)) (xke_k hq161 hkx3 (by decide)) h147 h161 hp
    · replace hp := hp.2 c152
      refine xJ_iconst hX dL_randomRoad_155 ?_
      refine xJ_goto hX dL_randomRoad_156 (tgt := 164) (by decide) ?_
      exact l164 _ _ _ _ _ _ _ _ _ _ _ (by omega) (by omega) hM hqE hkx1 hkx2 hkx3 h147 ⟨by decide, by decide⟩ hp
  have l22 : ∀ (k22 : Nat) (c s n : Nat) (x0 : Nat) (x1 : Nat) (x2 : Nat) (x3 : Nat) (x4 : Int) (t : xTh) (M : xMe) (hc : c + n ≤ nE) (hs : s + 64 * n ≤ 64 * nE) (hM : xMR M) (hqE : xke tE t) (hkx1 : xk t x1 = 14) (hkx2 : xk t x2 = 19) (hkx3 : xk t x3 = 20) (hx4 : xR x4) (hp : p_L_randomRoad_22 F G Q (p_L_randomRoad_143 F G Q) k22 n x0 x1 x2 x3 x4 t M), xJ X c s t M 22 [vr x0, vr x1, vr x2, vr x3, vi x4, vU, vU, vU, vU] [] := by
    intro k22
    induction k22 with
    | zero => intro c s n x0 x1 x2 x3 x4 t M hc hs hM hqE hkx1 hkx2 hkx3 hx4 hp; exact hp.elim
    | succ k22 ih22 =>
      intro c s n x0 x1 x2 x3 x4 t M hc hs hM hqE hkx1 hkx2 hkx3 hx4 hp
      unfold p_L_randomRoad_22 at hp
      refine xJ_iload hX dL_randomRoad_22 rfl ?_
      refine xJ_if_le hX dL_randomRoad_24 (tgt := 143) (by decide) hx4 (fun c24 => ?_) (fun c24 => ?_)
      · replace hp := hp.1 c24
        refine xJ_fg 4 ?_
        dsimp only [List.set]
        exact l143 _ _ _ _ _ _ _ _ _ (by omega) (by omega) hM hqE hkx1 hkx2 hkx3 hp
      · replace hp := hp.2 c24
        refine xJ_aload_n hX dL_randomRoad_27 rfl ?_
        refine xJ_aload_n hX dL_randomRoad_28 rfl ?_
        obtain ⟨b29, e29, hkb29, hp⟩ := hp
        refine xJ_getR (b := b29) hX dL_randomRoad_29 fd_L_133 rfl hkx3 e29 ?_
        refine xJ_iconst hX dL_randomRoad_32 ?_
        obtain ⟨hn33, hp⟩ := hp
        refine xJ_newIE hX hB hM dL_randomRoad_33 ac_int (by decide) (by decide) (by omega) (by omega) (fun a33 t33 M33 ea33 et33 e33 hM33 hq33 hka33 => ?_)
        replace hp := hp a33 t33 M33 ea33 et33 e33
        refine xJ_dup hX dL_randomRoad_35 rfl ?_
        refine xJ_iconst hX dL_randomRoad_36 ?_
        refine xJ_aload_n hX dL_randomRoad_37 rfl ?_
        refine xJ_aload_n hX dL_randomRoad_38 rfl ?_
        refine xJ_iconst hX dL_randomRoad_39 ?_
        obtain ⟨k40, hn40, hp⟩ := hp
        refine xJ_callV (As := [_]) hX hB dL_randomRoad_40 lk_L_128 im_X13_below se_X13_below rfl (by decide) (xke_k hq33 hkx2 (by decide)) (c_X13_below hM33 (xke_k hq33 hkx2 (by decide)) ⟨by decide, by decide⟩ hp) (by decide) rfl rfl rfl (Nat.le_of_ble_eq_true rfl) (by omega) (by omega) (fun v t40 M40 hv => ?_) (fun _ _ _ q => q.elim)
        clear hp
        obtain ⟨r40, rfl, h40, hM40, hq40, hp⟩ := hv
        dsimp only [Option.toList, List.cons_append, List.nil_append]
        have l53 : ∀ (c s n : Nat) (x0 : Nat) (x1 : Nat) (x2 : Nat) (x3 : Nat) (x4 : Int) (y0 : Int) (y1 : Nat) (y2 : Int) (y3 : Nat) (y4 : Nat) (y5 : Nat) (y6 : Nat) (t : xTh) (M : xMe) (hc : c + n ≤ nE) (hs : s + 64 * n ≤ 64 * nE) (hM : xMR M) (hqE : xke tE t) (hkx1 : xk t x1 = 14) (hkx2 : xk t x2 = 19) (hkx3 : xk t x3 = 20) (hx4 : xR x4) (hy0 : xR y0) (hky1 : xk t y1 = 19) (hy2 : xR y2) (hky3 : xk t y3 = 14) (hky4 : xk t y4 = 14) (hky5 : xk t y5 = 17) (hky6 : xk t y6 = 20) (hp : p_L_randomRoad_53 F G Q (p_L_randomRoad_22 F G Q (p_L_randomRoad_143 F G Q) k22) (p_L_randomRoad_143 F G Q) n x0 x1 x2 x3 x4 y0 y1 y2 y3 y4 y5 y6 t M), xJ X c s t M 53 [vr x0, vr x1, vr x2, vr x3, vi x4, vU, vU, vU, vU] [vi y0, vr y1, vi y2, vr y3, vr y4, vr y5, vr y6] := by
          intro c s n x0 x1 x2 x3 x4 y0 y1 y2 y3 y4 y5 y6 t M hc hs hM hqE hkx1 hkx2 hkx3 hx4 hy0 hky1 hy2 hky3 hky4 hky5 hky6 hp
          unfold p_L_randomRoad_53 at hp
          obtain ⟨k53, hn53, hp⟩ := hp
          refine xJ_callV (As := [_]) hX hB dL_randomRoad_53 lk_L_128 im_X13_below se_X13_below rfl (by decide) hky1 (c_X13_below hM hky1 hy0 hp) (by decide) rfl rfl rfl (Nat.le_of_ble_eq_true rfl) (by omega) (by omega) (fun v t53 M53 hv => ?_) (fun _ _ _ q => q.elim)
          clear hp
          obtain ⟨r53, rfl, h53, hM53, hq53, hp⟩ := hv
          dsimp only [Option.toList, List.cons_append, List.nil_append]
          obtain ⟨h56, hp⟩ := hp
          refine xJ_iastM hX dL_randomRoad_56 (xke_k hq53 hky3 (by decide)) h56.1 h56.2 hM53 h53 (fun M56 e56 hM56 => ?_)
          replace hp := hp M56 e56
          refine xJ_dup hX dL_randomRoad_57 rfl ?_
          refine xJ_iconst hX dL_randomRoad_58 ?_
          refine xJ_iconst hX dL_randomRoad_59 ?_
          refine xJ_aload_n hX dL_randomRoad_60 rfl ?_
          refine xJ_aload_n hX dL_randomRoad_61 rfl ?_
          refine xJ_iconst hX dL_randomRoad_62 ?_
          obtain ⟨k63, hn63, hp⟩ := hp
          refine xJ_callV (As := [_]) hX hB dL_randomRoad_63 lk_L_128 im_X13_below se_X13_below rfl (by decide) (xke_k hq53 hkx2 (by decide)) (c_X13_below hM56 (xke_k hq53 hkx2 (by decide)) ⟨by decide, by decide⟩ hp) (by decide) rfl rfl rfl (Nat.le_of_ble_eq_true rfl) (by omega) (by omega) (fun v t63 M63 hv => ?_) (fun _ _ _ q => q.elim)
          clear hp
          obtain ⟨r63, rfl, h63, hM63, hq63, hp⟩ := hv
          dsimp only [Option.toList, List.cons_append, List.nil_append]
          have l77 : ∀ (c s n : Nat) (x0 : Nat) (x1 : Nat) (x2 : Nat) (x3 : Nat) (x4 : Int) (y0 : Int) (y1 : Nat) (y2 : Int) (y3 : Int) (y4 : Nat) (y5 : Nat) (y6 : Nat) (y7 : Nat) (t : xTh) (M : xMe) (hc : c + n ≤ nE) (hs : s + 64 * n ≤ 64 * nE) (hM : xMR M) (hqE : xke tE t) (hkx1 : xk t x1 = 14) (hkx2 : xk t x2 = 19) (hkx3 : xk t x3 = 20) (hx4 : xR x4) (hy0 : xR y0) (hky1 : xk t y1 = 19) (hy2 : xR y2) (hy3 : xR y3) (hky4 : xk t y4 = 14) (hky5 : xk t y5 = 14) (hky6 : xk t y6 = 17) (hky7 : xk t y7 = 20) (hp : p_L_randomRoad_77 F G Q (p_L_randomRoad_22 F G Q (p_L_randomRoad_143 F G Q) k22) (p_L_randomRoad_143 F G Q) n x0 x1 x2 x3 x4 y0 y1 y2 y3 y4 y5 y6 y7 t M), xJ X c s t M 77 [vr x0, vr x1, vr x2, vr x3, vi x4, vU, vU, vU, vU] [vi y0, vr y1, vi y2, vi y3, vr y4, vr y5, vr y6, vr y7] := by
            intro c s n x0 x1 x2 x3 x4 y0 y1 y2 y3 y4 y5 y6 y7 t M hc hs hM hqE hkx1 hkx2 hkx3 hx4 hy0 hky1 hy2 hy3 hky4 hky5 hky6 hky7 hp
            unfold p_L_randomRoad_77 at hp
            obtain ⟨k77, hn77, hp⟩ := hp
            refine xJ_callV (As := [_]) hX hB dL_randomRoad_77 lk_L_128 im_X13_below se_X13_below rfl (by decide) hky1 (c_X13_below hM hky1 hy0 hp) (by decide) rfl rfl rfl (Nat.le_of_ble_eq_true rfl) (by omega) (by omega) (fun v t77 M77 hv => ?_) (fun _ _ _ q => q.elim)
            clear hp
            obtain ⟨r77, rfl, h77, hM77, hq77, hp⟩ := hv
            dsimp only [Option.toList, List.cons_append, List.nil_append]
            refine xJ_iadd hX dL_randomRoad_80 ?_
            obtain ⟨h80, hp⟩ := hp
            obtain ⟨h81, hp⟩ := hp
            refine xJ_iastM hX dL_randomRoad_81 (xke_k hq77 hky4 (by decide)) h81.1 h81.2 hM77 h80 (fun M81 e81 hM81 => ?_)
            replace hp := hp M81 e81
            refine xJ_dup hX dL_randomRoad_82 rfl ?_
            refine xJ_iconst hX dL_randomRoad_83 ?_
            refine xJ_iconst hX dL_randomRoad_84 ?_
            refine xJ_aload_n hX dL_randomRoad_85 rfl ?_
            refine xJ_aload_n hX dL_randomRoad_86 rfl ?_
            refine xJ_iconst hX dL_randomRoad_87 ?_
            obtain ⟨k88, hn88, hp⟩ := hp
            refine xJ_callV (As := [_]) hX hB dL_randomRoad_88 lk_L_128 im_X13_below se_X13_below rfl (by decide) (xke_k hq77 hkx2 (by decide)) (c_X13_below hM81 (xke_k hq77 hkx2 (by decide)) ⟨by decide, by decide⟩ hp) (by decide) rfl rfl rfl (Nat.le_of_ble_eq_true rfl) (by omega) (by omega) (fun v t88 M88 hv => ?_) (fun _ _ _ q => q.elim)
            clear hp
            obtain ⟨r88, rfl, h88, hM88, hq88, hp⟩ := hv
            dsimp only [Option.toList, List.cons_append, List.nil_append]
            have l100 : ∀ (c s n : Nat) (x0 : Nat) (x1 : Nat) (x2 : Nat) (x3 : Nat) (x4 : Int) (y0 : Int) (y1 : Nat) (y2 : Int) (y3 : Int) (y4 : Nat) (y5 : Nat) (y6 : Nat) (y7 : Nat) (t : xTh) (M : xMe) (hc : c + n ≤ nE) (hs : s + 64 * n ≤ 64 * nE) (hM : xMR M) (hqE : xke tE t) (hkx1 : xk t x1 = 14) (hkx2 : xk t x2 = 19) (hkx3 : xk t x3 = 20) (hx4 : xR x4) (hy0 : xR y0) (hky1 : xk t y1 = 19) (hy2 : xR y2) (hy3 : xR y3) (hky4 : xk t y4 = 14) (hky5 : xk t y5 = 14) (hky6 : xk t y6 = 17) (hky7 : xk t y7 = 20) (hp : p_L_randomRoad_100 F G Q (p_L_randomRoad_22 F G Q (p_L_randomRoad_143 F G Q) k22) (p_L_randomRoad_143 F G Q) n x0 x1 x2 x3 x4 y0 y1 y2 y3 y4 y5 y6 y7 t M), xJ X c s t M 100 [vr x0, vr x1, vr x2, vr x3, vi x4, vU, vU, vU, vU] [vi y0, vr y1, vi y2, vi y3, vr y4, vr y5, vr y6, vr y7] := by
              intro c s n x0 x1 x2 x3 x4 y0 y1 y2 y3 y4 y5 y6 y7 t M hc hs hM hqE hkx1 hkx2 hkx3 hx4 hy0 hky1 hy2 hy3 hky4 hky5 hky6 hky7 hp
              unfold p_L_randomRoad_100 at hp
              obtain ⟨k100, hn100, hp⟩ := hp
              refine xJ_callV (As := [_]) hX hB dL_randomRoad_100 lk_L_128 im_X13_below se_X13_below rfl (by decide) hky1 (c_X13_below hM hky1 hy0 hp) (by decide) rfl rfl rfl (Nat.le_of_ble_eq_true rfl) (by omega) (by omega) (fun v t100 M100 hv => ?_) (fun _ _ _ q => q.elim)
              clear hp
              obtain ⟨r100, rfl, h100, hM100, hq100, hp⟩ := hv
              dsimp only [Option.toList, List.cons_append, List.nil_append]
              refine xJ_iadd hX dL_randomRoad_103 ?_
              obtain ⟨h103, hp⟩ := hp
              obtain ⟨h104, hp⟩ := hp
              refine xJ_iastM hX dL_randomRoad_104 (xke_k hq100 hky4 (by decide)) h104.1 h104.2 hM100 h103 (fun M104 e104 hM104 => ?_)
              replace hp := hp M104 e104
              obtain ⟨k105, hn105, hp⟩ := hp
              refine xJ_callS (As := [_, _]) hX hB dL_randomRoad_105 lk_L_137 sm_L_with (c_L_with hM104 (xke_k hq100 hky6 (by decide)) (xke_k hq100 hky5 (by decide)) hp) (by decide) rfl rfl rfl (Nat.le_of_ble_eq_true rfl) (by omega) (by omega) (fun v t105 M105 hv => ?_) (fun _ _ _ q => q.elim)
              clear hp
              obtain ⟨r105, rfl, hk105, hM105, hq105, hp⟩ := hv
              dsimp only [Option.toList, List.cons_append, List.nil_append]
              refine xJ_putRE (x := (some r105)) hX dL_randomRoad_108 fd_L_133 ft_X14 rfl rfl rfl rfl (xke_k hq105 (xke_k hq100 hky7 (by decide)) (by decide)) (fun t108 et108 hq108 => ?_)
              replace hp := hp t108 et108
              refine xJ_aload_n hX dL_randomRoad_111 rfl ?_
              refine xJ_aload_n hX dL_randomRoad_112 rfl ?_
              refine xJ_ldcS 1 hX dL_randomRoad_113 (by decide +kernel) ?_
              refine xJ_aload_n hX dL_randomRoad_115 rfl ?_
              obtain ⟨b116, e116, hkb116, hp⟩ := hp
              refine xJ_getR (b := b116) hX dL_randomRoad_116 fd_L_133 rfl (xke_k hq108 (xke_k hq105 (xke_k hq100 hkx3 (by decide)) (by decide)) (by decide)) e116 ?_
              refine xJ_aload_n hX dL_randomRoad_119 rfl ?_
              refine xJ_getR (b := b116) hX dL_randomRoad_120 fd_L_133 rfl (xke_k hq108 (xke_k hq105 (xke_k hq100 hkx3 (by decide)) (by decide)) (by decide)) e116 ?_
              refine xJ_alen hX dL_randomRoad_123 (by rw [hkb116]; decide) (by rw [hkb116]; decide) ?_
              obtain ⟨h123, hp⟩ := hp
              refine xJ_iconst hX dL_randomRoad_124 ?_
              refine xJ_isub hX dL_randomRoad_125 ?_
              obtain ⟨h125, hp⟩ := hp
              obtain ⟨h126, hp⟩ := hp
              obtain ⟨b126, e126, hkb126, hp⟩ := hp
              refine xJ_aaldOb hX dL_randomRoad_126 hkb116 h126.1 h126.2 e126 ?_
              obtain ⟨k127, hn127, hp⟩ := hp
              refine xJ_callS (As := [_, _, _, _]) hX hB dL_randomRoad_127 lk_L_142 sm_L_writeNumbers (c_L_writeNumbers hM105 (xke_k hq108 (xke_k hq105 (xke_k hq100 hkx1 (by decide)) (by decide)) (by decide)) hkb126 hp) (by decide) rfl rfl rfl (Nat.le_of_ble_eq_true rfl) (by omega) (by omega) (fun v t127 M127 hv => ?_) (fun _ _ _ q => q.elim)
              clear hp
              obtain ⟨rfl, hM127, hq127, hp⟩ := hv
              dsimp only [Option.toList, List.cons_append, List.nil_append]
              refine xJ_aload_n hX dL_randomRoad_130 rfl ?_
              refine xJ_aload_n hX dL_randomRoad_131 rfl ?_
              refine xJ_ldcS 20 hX dL_randomRoad_132 (by decide +kernel) ?_
              obtain ⟨k134, hn134, hp⟩ := hp
              refine xJ_callS (As := [_, _, _]) hX hB dL_randomRoad_134 lk_L_114 sm_L_write (c_L_write hM127 (xke_k hq127 (xke_k hq108 (xke_k hq105 (xke_k hq100 hkx1 (by decide)) (by decide)) (by decide)) (by decide)) hp) (by decide) rfl rfl rfl (Nat.le_of_ble_eq_true rfl) (by omega) (by omega) (fun v t134 M134 hv => ?_) (fun _ _ _ q => q.elim)
              clear hp
              obtain ⟨rfl, hM134, hq134, hp⟩ := hv
              dsimp only [Option.toList, List.cons_append, List.nil_append]
              refine xJ_iinc hX dL_randomRoad_137 rfl rfl ?_
              dsimp only [List.set]
              obtain ⟨h137, hp⟩ := hp
              refine xJ_goto hX dL_randomRoad_140 (tgt := 22) (by decide) ?_
              exact ih22 _ _ _ _ _ _ _ _ _ _ (by omega) (by omega) hM134 (xke_trans (xke_trans (xke_trans (xke_trans (xke_trans hqE hq100) hq105) hq108) hq127) hq134) (xke_k hq134 (xke_k hq127 (xke_k hq108 (xke_k hq105 (xke_k hq100 hkx1 (by decide)) (by decide)) (by decide)) (by decide)) (by decide)) (xke_k hq134 (xke_k hq127 (xke_k hq108 (xke_k hq105 (xke_k hq100 hkx2 (by decide)) (by decide)) (by decide)) (by decide)) (by decide)) (xke_k hq134 (xke_k hq127 (xke_k hq108 (xke_k hq105 (xke_k hq100 hkx3 (by decide)) (by decide)) (by decide)) (by decide)) (by decide)) h137 hp
            refine xJ_if_ne hX dL_randomRoad_91 (tgt := 99) (by decide) h88 (fun c91 => ?_) (fun c91 => ?_)
            · replace hp := hp.1 c91
              refine xJ_iconst hX dL_randomRoad_99 ?_
              exact l100 _ _ _ _ _ _ _ _ _ _ _ _ _ _ _ _ _ _ (by omega) (by omega) hM88 (xke_trans (xke_trans hqE hq77) hq88) (xke_k hq88 (xke_k hq77 hkx1 (by decide)) (by decide)) (xke_k hq88 (xke_k hq77 hkx2 (by decide)) (by decide)) (xke_k hq88 (xke_k hq77 hkx3 (by decide)) (by decide)) hx4 ⟨by decide, by decide⟩ (xke_k hq88 (xke_k hq77 hkx2 (by decide)) (by decide)) ⟨by decide, by decide⟩ ⟨by decide, by decide⟩ (xke_k hq88 (xke_k hq77 hky5 (by decide)) (by decide)) (xke_k hq88 (xke_k hq77 hky5 (by decide)) (by decide)) (xke_k hq88 (xke_k hq77 hky6 (by decide)) (by decide)) (xke_k hq88 (xke_k hq77 hky7 (by decide)) (by decide)) hp
            · replace hp := hp.2 c91
              refine xJ_bipush hX dL_randomRoad_94 rfl ?_
              refine xJ_goto hX dL_randomRoad_96 (tgt := 100) (by decide) ?_
              exact l100 _ _ _ _ _ _ _ _ _ _ _ _ _ _ _ _ _ _ (by omega) (by omega) hM88 (xke_trans (xke_trans hqE hq77) hq88) (xke_k hq88 (xke_k hq77 hkx1 (by decide)) (by decide)) (xke_k hq88 (xke_k hq77 hkx2 (by decide)) (by decide)) (xke_k hq88 (xke_k hq77 hkx3 (by decide)) (by decide)) hx4 ⟨by decide, by decide⟩ (xke_k hq88 (xke_k hq77 hkx2 (by decide)) (by decide)) ⟨by decide, by decide⟩ ⟨by decide, by decide⟩ (xke_k hq88 (xke_k hq77 hky5 (by decide)) (by decide)) (xke_k hq88 (xke_k hq77 hky5 (by decide)) (by decide)) (xke_k hq88 (xke_k hq77 hky6 (by decide)) (by decide)) (xke_k hq88 (xke_k hq77 hky7 (by decide)) (by decide)) hp
          refine xJ_if_ne hX dL_randomRoad_66 (tgt := 75) (by decide) h63 (fun c66 => ?_) (fun c66 => ?_)
          · replace hp := hp.1 c66
            refine xJ_bipush hX dL_randomRoad_75 rfl ?_
            exact l77 _ _ _ _ _ _ _ _ _ _ _ _ _ _ _ _ _ _ (by omega) (by omega) hM63 (xke_trans (xke_trans hqE hq53) hq63) (xke_k hq63 (xke_k hq53 hkx1 (by decide)) (by decide)) (xke_k hq63 (xke_k hq53 hkx2 (by decide)) (by decide)) (xke_k hq63 (xke_k hq53 hkx3 (by decide)) (by decide)) hx4 ⟨by decide, by decide⟩ (xke_k hq63 (xke_k hq53 hkx2 (by decide)) (by decide)) ⟨by decide, by decide⟩ ⟨by decide, by decide⟩ (xke_k hq63 (xke_k hq53 hky4 (by decide)) (by decide)) (xke_k hq63 (xke_k hq53 hky4 (by decide)) (by decide)) (xke_k hq63 (xke_k hq53 hky5 (by decide)) (by decide)) (xke_k hq63 (xke_k hq53 hky6 (by decide)) (by decide)) hp
          · replace hp := hp.2 c66
            refine xJ_sipush hX dL_randomRoad_69 rfl ?_
            refine xJ_goto hX dL_randomRoad_72 (tgt := 77) (by decide) ?_
            exact l77 _ _ _ _ _ _ _ _ _ _ _ _ _ _ _ _ _ _ (by omega) (by omega) hM63 (xke_trans (xke_trans hqE hq53) hq63) (xke_k hq63 (xke_k hq53 hkx1 (by decide)) (by decide)) (xke_k hq63 (xke_k hq53 hkx2 (by decide)) (by decide)) (xke_k hq63 (xke_k hq53 hkx3 (by decide)) (by decide)) hx4 ⟨by decide, by decide⟩ (xke_k hq63 (xke_k hq53 hkx2 (by decide)) (by decide)) ⟨by decide, by decide⟩ ⟨by decide, by decide⟩ (xke_k hq63 (xke_k hq53 hky4 (by decide)) (by decide)) (xke_k hq63 (xke_k hq53 hky4 (by decide)) (by decide)) (xke_k hq63 (xke_k hq53 hky5 (by decide)) (by decide)) (xke_k hq63 (xke_k hq53 hky6 (by decide)) (by decide)) hp
        refine xJ_if_ne hX dL_randomRoad_43 (tgt := 51) (by decide) h40 (fun c43 => ?_) (fun c43 => ?_)
        · replace hp := hp.1 c43
          refine xJ_bipush hX dL_randomRoad_51 rfl ?_
          exact l53 _ _ _ _ _ _ _ _ _ _ _ _ _ _ _ _ _ (by omega) (by omega) hM40 (xke_trans (xke_trans hqE hq33) hq40) (xke_k hq40 (xke_k hq33 hkx1 (by decide)) (by decide)) (xke_k hq40 (xke_k hq33 hkx2 (by decide)) (by decide)) (xke_k hq40 (xke_k hq33 hkx3 (by decide)) (by decide)) hx4 ⟨by decide, by decide⟩ (xke_k hq40 (xke_k hq33 hkx2 (by decide)) (by decide)) ⟨by decide, by decide⟩ (xke_k hq40 hka33 (by decide)) (xke_k hq40 hka33 (by decide)) (xke_k hq40 (xke_k hq33 hkb29 (by decide)) (by decide)) (xke_k hq40 (xke_k hq33 hkx3 (by decide)) (by decide)) hp
        · replace hp := hp.2 c43
          refine xJ_bipush hX dL_randomRoad_46 rfl ?_
          refine xJ_goto hX dL_randomRoad_48 (tgt := 53) (by decide) ?_
          exact l53 _ _ _ _ _ _ _ _ _ _ _ _ _ _ _ _ _ (by omega) (by omega) hM40 (xke_trans (xke_trans hqE hq33) hq40) (xke_k hq40 (xke_k hq33 hkx1 (by decide)) (by decide)) (xke_k hq40 (xke_k hq33 hkx2 (by decide)) (by decide)) (xke_k hq40 (xke_k hq33 hkx3 (by decide)) (by decide)) hx4 ⟨by decide, by decide⟩ (xke_k hq40 (xke_k hq33 hkx2 (by decide)) (by decide)) ⟨by decide, by decide⟩ (xke_k hq40 hka33 (by decide)) (xke_k hq40 hka33 (by decide)) (xke_k hq40 (xke_k hq33 hkb29 (by decide)) (by decide)) (xke_k hq40 (xke_k hq33 hkx3 (by decide)) (by decide)) hp
  exact l22 F _ _ _ _ _ _ _ _ _ _ (by omega) (by omega) hM17 (xke_trans (xke_trans (xke_trans (xke_trans (xke_refl _) hq0) hq4) hq12) hq17) (xke_k hq17 (xke_k hq12 (xke_k hq4 (xke_k hq0 hkx1 (by decide)) (by decide)) (by decide)) (by decide)) (xke_k hq17 (xke_k hq12 (xke_k hq4 (xke_k hq0 hkx2 (by decide)) (by decide)) (by decide)) (by decide)) (xke_k hq17 (xke_k hq12 (xke_k hq4 hka0 (by decide)) (by decide)) (by decide)) h17 hp
