/-! THE TRIPS: one move more, both sides -/
section
variable {d f0 n o : Nat} {b : Bool} {L : Lnd} {Q : amQ} {hd : amD}
theorem g_taddM {X : Lnd × Nat} {s dy st g la : Nat} (hd9 : 3 ≤ d) (hn : 159 ≤ n) (hM : trR hd X.1 X.2) (h24 : X.2 < 24) (hs : s ≤ 3) (hdy : dy ≤ 60) (hst : st ≤ 99) (hg : g ≤ 99) (hla : la ≤ 1) (h : ∀ hd', trF hd hd' → trR hd' (addM X s dy st g la).1 (addM X s dy st g la).2 → Q none (am_R f0 b) hd' n) : wpM d 151 [vR 42, vI (s : Int), vI (dy : Int), vI (st : Int), vI (g : Int), vI (la : Int)] Q (am_R f0 b) hd n := by
  refine g_tadd hd9 hn hM hs hdy hst hg hla (fun c => ?_) (fun c _ => by omega) (fun c _ hd' e1 e2 => ?_)
  · refine h hd (trF_r hd) ?_
    unfold addM
    rw [if_pos c]
    exact hM
  · refine h hd' e1 ?_
    unfold addM
    rw [if_neg c]
    exact e2
theorem m_movesM {X : Lnd × Nat} {p q s dy la : Nat} (hd9 : 1 ≤ d) (hn : 159 ≤ n) (hL : mL hd L) (hM : mtR hd X.1 X.2) (hm : X.2 < 48) (hp : p < L 0 0) (hq : q < L 0 0) (h : ∀ hd', mtF9 hd hd' → mtR hd' (addM X s dy (L 1 p) (L 1 q) la).1 (addM X s dy (L 1 p) (L 1 q) la).2 → Q none (am_R f0 b) hd' n) : wpM d 283 [vR 98, vI (p : Int), vI (q : Int), vI (dy : Int), vI (s : Int), vI (la : Int)] Q (am_R f0 b) hd n := by
  refine m_moves1 hd9 hn hL hM hm hp hq (fun c => ?_) (fun c hd' e1 e2 => ?_)
  · refine h hd ⟨fun _ _ _ => rfl, fun _ _ => rfl⟩ ?_
    unfold addM
    rw [if_pos c]
    exact hM
  · refine h hd' e1 ?_
    unfold addM
    rw [if_neg c]
    exact e2
end
