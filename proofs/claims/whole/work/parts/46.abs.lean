/-! THE STATE: askers, places, seats, wishes, told givings, as both sides have them -/
/-- rows of gains from an asker on -/
def rf (r : Nat → Row) : Nat → Nat → List Row
  | _, 0 => []
  | a, n + 1 => r a :: rf r (a + 1) n
theorem rf_len (r : Nat → Row) : ∀ n a, (rf r a n).length = n
  | 0, _ => rfl
  | n + 1, a => by rw [rf, List.length_cons, rf_len r n]
def wo (W : Nat → Nat → Nat) (a o : Nat) : Nat := match o with
  | 0 => 7
  | q + 1 => if W a q = 0 then 8 else W a q
/-- how many askers have option o -/
def had (K : Nat) (t : Nat → Nat) (o : Nat) : Nat := fb_ct (fun a => decide (t a = o)) K
def Good (K P : Nat) (S : Nat → Nat) (W T : Nat → Nat → Nat) : Prop :=
  K ≤ 8 ∧ P ≤ 6 ∧ (∀ q, q < P → 1 ≤ S q ∧ S q ≤ 3) ∧ (∀ q, P ≤ q → S q = 0) ∧ (∀ a q, W a q ≤ 6) ∧ (∀ a q, K ≤ a → W a q = 0) ∧ (∀ a q, P ≤ q → W a q = 0) ∧
    (∀ g a, T g a ≤ P) ∧ (∀ g a, K ≤ a → T g a = 0) ∧ (∀ g a q, T g a = q + 1 → 0 < W a q) ∧ ∀ g q, q < P → had K (T g) (q + 1) ≤ S q
def RepB (K P : Nat) (S : Nat → Nat) (W T : Nat → Nat → Nat) (askers places : Int32) (seats wishes told : Nat → Int32) : Prop :=
  askers = nI K ∧ places = nI P ∧ (∀ q, q < 6 → seats q = nI (S q)) ∧ (∀ a q, a < 8 → q < 6 → wishes (a * 6 + q) = nI (W a q)) ∧ ∀ g a, g < 4 → a < 8 → told (g * 8 + a) = oI (T g a)
def RepM (K P : Nat) (S : Nat → Nat) (W T : Nat → Nat → Nat) (askers places : Int32) (seats wish told : Nat → Int32) : Prop :=
  askers = nI K ∧ places = nI P ∧ (∀ q, q < 6 → seats q = nI (S q)) ∧ (∀ a q, a < 8 → q < 6 → wish (a * 6 + q) = nI (W a q)) ∧ ∀ g a, g < 4 → a < 8 → told (g * 8 + a) = nI (T g a)
