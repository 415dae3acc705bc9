section
section RW
def gl (l : List Nat) (i : Nat) : Nat := l.getD i 0
def fI (g : Nat → Nat) : Nat → Nat
  | 0 => 0
  | k + 1 => if g k ≤ g (k + 1) then k + 1 else fI g k
def fJ (g : Nat → Nat) (i : Nat) : Nat → Nat
  | 0 => 0
  | k + 1 => if k + 1 ≤ i then k + 1 else if g (k + 1) < g i then fJ g i k else k + 1
def swp (g : Nat → Nat) (i j : Nat) : Nat → Nat := updN (updN g i (g j)) j (g i)
def rvF : Nat → (Nat → Nat) → Nat → Nat → (Nat → Nat)
  | 0, g, _, _ => g
  | f + 1, g, a, b => if a < b then rvF f (swp g a b) (a + 1) (b - 1) else g
def nxF (n : Nat) (g : Nat → Nat) : Nat → Nat := rvF n (swp g (fI g (n - 1) - 1) (fJ g (fI g (n - 1) - 1) (n - 1))) (fI g (n - 1)) (n - 1)
def nxL (n : Nat) (a : List Nat) : Option (List Nat) := if fI (gl a) (n - 1) = 0 then none else some ((List.range n).map (nxF n (gl a)))
/-- all rows in which one begins -/
def ful (n : Nat) : Nat → List Nat → List (List Nat)
  | 0, pre => [pre]
  | r + 1, pre => (List.range n).flatMap (fun b => if pre.contains b then [] else ful n r (pre ++ [b]))
def chn (n : Nat) : List (List Nat) → Bool
  | [] => false
  | [a] => decide (nxL n a = none)
  | a :: b :: t => decide (nxL n a = some b) && chn n (b :: t)
def prm (n : Nat) (l : List Nat) : Bool := decide (l.length = n) && ((List.range n).all (fun k => l.contains k) && l.all (fun b => decide (b < n)))
set_option maxRecDepth 20000 in
theorem rows_fin : ∀ n, n < 7 → (chn n (ful n n []) && ((ful n n []).all (prm n) && (decide ((ful n n []).length ≤ 720) && decide ((ful n n []).head? = some (List.range n))))) = true := by decide +kernel
theorem chn_at {n : Nat} : ∀ (pre : List (List Nat)) (a : List Nat) (suf : List (List Nat)), chn n (pre ++ a :: suf) = true → nxL n a = suf.head?
  | [], a, [], h => of_decide_eq_true h
  | [], a, b :: t, h => by
    have h : (decide (nxL n a = some b) && chn n (b :: t)) = true := h
    rw [Bool.and_eq_true, decide_eq_true_eq] at h
    exact h.1
  | [p], a, suf, h => by
    have h : (decide (nxL n p = some a) && chn n (a :: suf)) = true := h
    rw [Bool.and_eq_true] at h
    exact chn_at [] a suf h.2
  | p :: q :: t, a, suf, h => by
    have h : (decide (nxL n p = some q) && chn n (q :: (t ++ a :: suf))) = true := h
    rw [Bool.and_eq_true] at h
    exact chn_at (q :: t) a suf h.2
end RW
end
