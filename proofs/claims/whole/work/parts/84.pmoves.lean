/-! THE TRIPS: the moves of one thing -/
def addM (X : Lnd × Nat) (s dy st g la : Nat) : Lnd × Nat := if st = g then X else (pushM X.1 X.2 s dy st g la, X.2 + 1)
theorem addM_le (X : Lnd × Nat) (s dy st g la : Nat) : X.2 ≤ (addM X s dy st g la).2 ∧ (addM X s dy st g la).2 ≤ X.2 + 1 := by
  unfold addM
  split
  · exact ⟨Nat.le_refl _, Nat.le_succ _⟩
  · exact ⟨Nat.le_succ _, Nat.le_refl _⟩
/-- where the thing is before its i-th want -/
def plT (hp v : Nat) (px : Nat → Nat) : Nat → Nat
  | 0 => hp
  | i + 1 => if v.testBit i = true then hp else px i
/-- the moves of a thing for its first i wants of n, by the way v -/
def goT (s hp n v : Nat) (px fr ti : Nat → Nat) : Nat → Lnd × Nat → Lnd × Nat
  | 0, X => X
  | i + 1, X => if v.testBit i = true then addM (addM (goT s hp n v px fr ti i X) s (fr i) (plT hp v px i) (px i) 0) s (ti i) (px i) hp (if i + 1 = n then 1 else 0) else addM (goT s hp n v px fr ti i X) s (fr i) (plT hp v px i) (px i) 0
theorem goT_le (s hp n v : Nat) (px fr ti : Nat → Nat) (X : Lnd × Nat) : ∀ i : Nat, X.2 ≤ (goT s hp n v px fr ti i X).2 ∧ (goT s hp n v px fr ti i X).2 ≤ X.2 + 2 * i
  | 0 => ⟨Nat.le_refl _, Nat.le_refl _⟩
  | i + 1 => by
    have h1 := goT_le s hp n v px fr ti X i
    have h2 := addM_le (goT s hp n v px fr ti i X) s (fr i) (plT hp v px i) (px i) 0
    have h3 := addM_le (addM (goT s hp n v px fr ti i X) s (fr i) (plT hp v px i) (px i) 0) s (ti i) (px i) hp (if i + 1 = n then 1 else 0)
    unfold goT
    split <;> omega
theorem plT_eq {hp v v' : Nat} {px : Nat → Nat} : ∀ i : Nat, (∀ j, j < i → v.testBit j = v'.testBit j) → plT hp v px i = plT hp v' px i
  | 0, _ => rfl
  | i + 1, h => by
    show (if v.testBit i = true then hp else px i) = (if v'.testBit i = true then hp else px i)
    rw [h i (by omega)]
theorem goT_eq {s hp n v v' : Nat} {px fr ti : Nat → Nat} {X : Lnd × Nat} : ∀ i : Nat, (∀ j, j < i → v.testBit j = v'.testBit j) → goT s hp n v px fr ti i X = goT s hp n v' px fr ti i X
  | 0, _ => rfl
  | i + 1, h => by
    unfold goT
    rw [h i (by omega), plT_eq i (fun j hj => h j (by omega)), goT_eq i (fun j hj => h j (by omega))]
