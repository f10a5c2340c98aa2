/-! the reference's memory by its regions: A jobs, R arrivals, T turns, L log, V went, H the head -/
def mA (u : gMem) (j w : Nat) : Int32 := u.1 1 (42 + 20 * j + w)
def wA (u : gMem) (j w : Nat) (x : Int32) : gMem := gwI u 1 (42 + 20 * j + w) x
def mR (u : gMem) (i k : Nat) : Int32 := u.1 1 (1242 + 4 * i + k)
def wR (u : gMem) (i k : Nat) (x : Int32) : gMem := gwI u 1 (1242 + 4 * i + k) x
def mT (u : gMem) (s : Nat) : Int32 := u.1 1 (1482 + s)
def wT (u : gMem) (s : Nat) (x : Int32) : gMem := gwI u 1 (1482 + s) x
def mL (u : gMem) (k f : Nat) : Int32 := u.1 1 (1490 + 5 * k + f)
def wL (u : gMem) (k f : Nat) (x : Int32) : gMem := gwI u 1 (1490 + 5 * k + f) x
def mV (u : gMem) (k f : Nat) : Int32 := u.1 1 (1790 + 4 * k + f)
def wV (u : gMem) (k f : Nat) (x : Int32) : gMem := gwI u 1 (1790 + 4 * k + f) x
def mH (u : gMem) (h : Nat) : Int32 := u.1 1 (h)
def wH (u : gMem) (h : Nat) (x : Int32) : gMem := gwI u 1 (h) x
theorem mA_wA {u : gMem} {j w j' w' : Nat} {x : Int32} (h0 : j' < 60) (h1 : w' < 20) (h2 : j < 60) (h3 : w < 20) : mA (wA u j w x) j' w' = if j' = j ∧ w' = w then x else mA u j' w' := by
  unfold mA wA
  rw [gI_r]
  by_cases h : j' = j ∧ w' = w
  · rw [if_pos h, if_pos (by omega)]
  · rw [if_neg h, if_neg (by omega)]
theorem mA_wR {u : gMem} {i k j' w' : Nat} {x : Int32} (h0 : j' < 60) (h1 : w' < 20) (h2 : i < 60) (h3 : k < 4) : mA (wR u i k x) j' w' = mA u j' w' := by
  unfold mA wR
  rw [gI_r, if_neg (by omega)]
theorem mA_wT {u : gMem} {s j' w' : Nat} {x : Int32} (h0 : j' < 60) (h1 : w' < 20) (h2 : s < 8) : mA (wT u s x) j' w' = mA u j' w' := by
  unfold mA wT
  rw [gI_r, if_neg (by omega)]
theorem mA_wL {u : gMem} {k f j' w' : Nat} {x : Int32} (h0 : j' < 60) (h1 : w' < 20) (h2 : k < 60) (h3 : f < 5) : mA (wL u k f x) j' w' = mA u j' w' := by
  unfold mA wL
  rw [gI_r, if_neg (by omega)]
theorem mA_wV {u : gMem} {k f j' w' : Nat} {x : Int32} (h0 : j' < 60) (h1 : w' < 20) (h2 : k < 60) (h3 : f < 4) : mA (wV u k f x) j' w' = mA u j' w' := by
  unfold mA wV
  rw [gI_r, if_neg (by omega)]
theorem mA_wH {u : gMem} {h j' w' : Nat} {x : Int32} (h0 : j' < 60) (h1 : w' < 20) (h2 : h < 42) : mA (wH u h x) j' w' = mA u j' w' := by
  unfold mA wH
  rw [gI_r, if_neg (by omega)]
theorem mR_wA {u : gMem} {j w i' k' : Nat} {x : Int32} (h0 : i' < 60) (h1 : k' < 4) (h2 : j < 60) (h3 : w < 20) : mR (wA u j w x) i' k' = mR u i' k' := by
  unfold mR wA
  rw [gI_r, if_neg (by omega)]
theorem mR_wR {u : gMem} {i k i' k' : Nat} {x : Int32} (h0 : i' < 60) (h1 : k' < 4) (h2 : i < 60) (h3 : k < 4) : mR (wR u i k x) i' k' = if i' = i ∧ k' = k then x else mR u i' k' := by
  unfold mR wR
  rw [gI_r]
  by_cases h : i' = i ∧ k' = k
  · rw [if_pos h, if_pos (by omega)]
  · rw [if_neg h, if_neg (by omega)]
theorem mR_wT {u : gMem} {s i' k' : Nat} {x : Int32} (h0 : i' < 60) (h1 : k' < 4) (h2 : s < 8) : mR (wT u s x) i' k' = mR u i' k' := by
  unfold mR wT
  rw [gI_r, if_neg (by omega)]
theorem mR_wL {u : gMem} {k f i' k' : Nat} {x : Int32} (h0 : i' < 60) (h1 : k' < 4) (h2 : k < 60) (h3 : f < 5) : mR (wL u k f x) i' k' = mR u i' k' := by
  unfold mR wL
  rw [gI_r, if_neg (by omega)]
theorem mR_wV {u : gMem} {k f i' k' : Nat} {x : Int32} (h0 : i' < 60) (h1 : k' < 4) (h2 : k < 60) (h3 : f < 4) : mR (wV u k f x) i' k' = mR u i' k' := by
  unfold mR wV
  rw [gI_r, if_neg (by omega)]
theorem mR_wH {u : gMem} {h i' k' : Nat} {x : Int32} (h0 : i' < 60) (h1 : k' < 4) (h2 : h < 42) : mR (wH u h x) i' k' = mR u i' k' := by
  unfold mR wH
  rw [gI_r, if_neg (by omega)]
theorem mT_wA {u : gMem} {j w s' : Nat} {x : Int32} (h0 : s' < 8) (h2 : j < 60) (h3 : w < 20) : mT (wA u j w x) s' = mT u s' := by
  unfold mT wA
  rw [gI_r, if_neg (by omega)]
theorem mT_wR {u : gMem} {i k s' : Nat} {x : Int32} (h0 : s' < 8) (h2 : i < 60) (h3 : k < 4) : mT (wR u i k x) s' = mT u s' := by
  unfold mT wR
  rw [gI_r, if_neg (by omega)]
theorem mT_wT {u : gMem} {s s' : Nat} {x : Int32} (h0 : s' < 8) (h2 : s < 8) : mT (wT u s x) s' = if s' = s then x else mT u s' := by
  unfold mT wT
  rw [gI_r]
  by_cases h : s' = s
  · rw [if_pos h, if_pos (by omega)]
  · rw [if_neg h, if_neg (by omega)]
theorem mT_wL {u : gMem} {k f s' : Nat} {x : Int32} (h0 : s' < 8) (h2 : k < 60) (h3 : f < 5) : mT (wL u k f x) s' = mT u s' := by
  unfold mT wL
  rw [gI_r, if_neg (by omega)]
theorem mT_wV {u : gMem} {k f s' : Nat} {x : Int32} (h0 : s' < 8) (h2 : k < 60) (h3 : f < 4) : mT (wV u k f x) s' = mT u s' := by
  unfold mT wV
  rw [gI_r, if_neg (by omega)]
theorem mT_wH {u : gMem} {h s' : Nat} {x : Int32} (h0 : s' < 8) (h2 : h < 42) : mT (wH u h x) s' = mT u s' := by
  unfold mT wH
  rw [gI_r, if_neg (by omega)]
theorem mL_wA {u : gMem} {j w k' f' : Nat} {x : Int32} (h0 : k' < 60) (h1 : f' < 5) (h2 : j < 60) (h3 : w < 20) : mL (wA u j w x) k' f' = mL u k' f' := by
  unfold mL wA
  rw [gI_r, if_neg (by omega)]
theorem mL_wR {u : gMem} {i k k' f' : Nat} {x : Int32} (h0 : k' < 60) (h1 : f' < 5) (h2 : i < 60) (h3 : k < 4) : mL (wR u i k x) k' f' = mL u k' f' := by
  unfold mL wR
  rw [gI_r, if_neg (by omega)]
theorem mL_wT {u : gMem} {s k' f' : Nat} {x : Int32} (h0 : k' < 60) (h1 : f' < 5) (h2 : s < 8) : mL (wT u s x) k' f' = mL u k' f' := by
  unfold mL wT
  rw [gI_r, if_neg (by omega)]
theorem mL_wL {u : gMem} {k f k' f' : Nat} {x : Int32} (h0 : k' < 60) (h1 : f' < 5) (h2 : k < 60) (h3 : f < 5) : mL (wL u k f x) k' f' = if k' = k ∧ f' = f then x else mL u k' f' := by
  unfold mL wL
  rw [gI_r]
  by_cases h : k' = k ∧ f' = f
  · rw [if_pos h, if_pos (by omega)]
  · rw [if_neg h, if_neg (by omega)]
theorem mL_wV {u : gMem} {k f k' f' : Nat} {x : Int32} (h0 : k' < 60) (h1 : f' < 5) (h2 : k < 60) (h3 : f < 4) : mL (wV u k f x) k' f' = mL u k' f' := by
  unfold mL wV
  rw [gI_r, if_neg (by omega)]
theorem mL_wH {u : gMem} {h k' f' : Nat} {x : Int32} (h0 : k' < 60) (h1 : f' < 5) (h2 : h < 42) : mL (wH u h x) k' f' = mL u k' f' := by
  unfold mL wH
  rw [gI_r, if_neg (by omega)]
theorem mV_wA {u : gMem} {j w k' f' : Nat} {x : Int32} (h0 : k' < 60) (h1 : f' < 4) (h2 : j < 60) (h3 : w < 20) : mV (wA u j w x) k' f' = mV u k' f' := by
  unfold mV wA
  rw [gI_r, if_neg (by omega)]
theorem mV_wR {u : gMem} {i k k' f' : Nat} {x : Int32} (h0 : k' < 60) (h1 : f' < 4) (h2 : i < 60) (h3 : k < 4) : mV (wR u i k x) k' f' = mV u k' f' := by
  unfold mV wR
  rw [gI_r, if_neg (by omega)]
theorem mV_wT {u : gMem} {s k' f' : Nat} {x : Int32} (h0 : k' < 60) (h1 : f' < 4) (h2 : s < 8) : mV (wT u s x) k' f' = mV u k' f' := by
  unfold mV wT
  rw [gI_r, if_neg (by omega)]
theorem mV_wL {u : gMem} {k f k' f' : Nat} {x : Int32} (h0 : k' < 60) (h1 : f' < 4) (h2 : k < 60) (h3 : f < 5) : mV (wL u k f x) k' f' = mV u k' f' := by
  unfold mV wL
  rw [gI_r, if_neg (by omega)]
theorem mV_wV {u : gMem} {k f k' f' : Nat} {x : Int32} (h0 : k' < 60) (h1 : f' < 4) (h2 : k < 60) (h3 : f < 4) : mV (wV u k f x) k' f' = if k' = k ∧ f' = f then x else mV u k' f' := by
  unfold mV wV
  rw [gI_r]
  by_cases h : k' = k ∧ f' = f
  · rw [if_pos h, if_pos (by omega)]
  · rw [if_neg h, if_neg (by omega)]
theorem mV_wH {u : gMem} {h k' f' : Nat} {x : Int32} (h0 : k' < 60) (h1 : f' < 4) (h2 : h < 42) : mV (wH u h x) k' f' = mV u k' f' := by
  unfold mV wH
  rw [gI_r, if_neg (by omega)]
theorem mH_wA {u : gMem} {j w h' : Nat} {x : Int32} (h0 : h' < 42) (h2 : j < 60) (h3 : w < 20) : mH (wA u j w x) h' = mH u h' := by
  unfold mH wA
  rw [gI_r, if_neg (by omega)]
theorem mH_wR {u : gMem} {i k h' : Nat} {x : Int32} (h0 : h' < 42) (h2 : i < 60) (h3 : k < 4) : mH (wR u i k x) h' = mH u h' := by
  unfold mH wR
  rw [gI_r, if_neg (by omega)]
theorem mH_wT {u : gMem} {s h' : Nat} {x : Int32} (h0 : h' < 42) (h2 : s < 8) : mH (wT u s x) h' = mH u h' := by
  unfold mH wT
  rw [gI_r, if_neg (by omega)]
theorem mH_wL {u : gMem} {k f h' : Nat} {x : Int32} (h0 : h' < 42) (h2 : k < 60) (h3 : f < 5) : mH (wL u k f x) h' = mH u h' := by
  unfold mH wL
  rw [gI_r, if_neg (by omega)]
theorem mH_wV {u : gMem} {k f h' : Nat} {x : Int32} (h0 : h' < 42) (h2 : k < 60) (h3 : f < 4) : mH (wV u k f x) h' = mH u h' := by
  unfold mH wV
  rw [gI_r, if_neg (by omega)]
theorem mH_wH {u : gMem} {h h' : Nat} {x : Int32} (h0 : h' < 42) (h2 : h < 42) : mH (wH u h x) h' = if h' = h then x else mH u h' := by
  unfold mH wH
  rw [gI_r]
  by_cases h : h' = h
  · rw [if_pos h, if_pos (by omega)]
  · rw [if_neg h, if_neg (by omega)]
theorem wA_c {u : gMem} {j w : Nat} {x : Int32} {c i' : Nat} (h : c ≠ 1) : (wA u j w x).1 c i' = u.1 c i' := by unfold wA; rw [gI_r, if_neg (fun q => h q.1)]
theorem wA_l {u : gMem} {j w : Nat} {x : Int32} : (wA u j w x).2 = u.2 := rfl
theorem wR_c {u : gMem} {i k : Nat} {x : Int32} {c i' : Nat} (h : c ≠ 1) : (wR u i k x).1 c i' = u.1 c i' := by unfold wR; rw [gI_r, if_neg (fun q => h q.1)]
theorem wR_l {u : gMem} {i k : Nat} {x : Int32} : (wR u i k x).2 = u.2 := rfl
theorem wT_c {u : gMem} {s : Nat} {x : Int32} {c i' : Nat} (h : c ≠ 1) : (wT u s x).1 c i' = u.1 c i' := by unfold wT; rw [gI_r, if_neg (fun q => h q.1)]
theorem wT_l {u : gMem} {s : Nat} {x : Int32} : (wT u s x).2 = u.2 := rfl
theorem wL_c {u : gMem} {k f : Nat} {x : Int32} {c i' : Nat} (h : c ≠ 1) : (wL u k f x).1 c i' = u.1 c i' := by unfold wL; rw [gI_r, if_neg (fun q => h q.1)]
theorem wL_l {u : gMem} {k f : Nat} {x : Int32} : (wL u k f x).2 = u.2 := rfl
theorem wV_c {u : gMem} {k f : Nat} {x : Int32} {c i' : Nat} (h : c ≠ 1) : (wV u k f x).1 c i' = u.1 c i' := by unfold wV; rw [gI_r, if_neg (fun q => h q.1)]
theorem wV_l {u : gMem} {k f : Nat} {x : Int32} : (wV u k f x).2 = u.2 := rfl
theorem wH_c {u : gMem} {h : Nat} {x : Int32} {c i' : Nat} (hc : c ≠ 1) : (wH u h x).1 c i' = u.1 c i' := by unfold wH; rw [gI_r, if_neg (fun q => hc q.1)]
theorem wH_l {u : gMem} {h : Nat} {x : Int32} : (wH u h x).2 = u.2 := rfl
theorem mA_c {u : gMem} {c i' : Nat} {x : Int32} {j w : Nat} (h : c ≠ 1) : mA (gwI u c i' x) j w = mA u j w := by unfold mA; rw [gI_r, if_neg (fun q => h q.1.symm)]
theorem mA_L {u : gMem} {c i' : Nat} {x : Int64} {j w : Nat} : mA (gwL u c i' x) j w = mA u j w := rfl
theorem mR_c {u : gMem} {c i' : Nat} {x : Int32} {i k : Nat} (h : c ≠ 1) : mR (gwI u c i' x) i k = mR u i k := by unfold mR; rw [gI_r, if_neg (fun q => h q.1.symm)]
theorem mR_L {u : gMem} {c i' : Nat} {x : Int64} {i k : Nat} : mR (gwL u c i' x) i k = mR u i k := rfl
theorem mT_c {u : gMem} {c i' : Nat} {x : Int32} {s : Nat} (h : c ≠ 1) : mT (gwI u c i' x) s = mT u s := by unfold mT; rw [gI_r, if_neg (fun q => h q.1.symm)]
theorem mT_L {u : gMem} {c i' : Nat} {x : Int64} {s : Nat} : mT (gwL u c i' x) s = mT u s := rfl
theorem mL_c {u : gMem} {c i' : Nat} {x : Int32} {k f : Nat} (h : c ≠ 1) : mL (gwI u c i' x) k f = mL u k f := by unfold mL; rw [gI_r, if_neg (fun q => h q.1.symm)]
theorem mL_L {u : gMem} {c i' : Nat} {x : Int64} {k f : Nat} : mL (gwL u c i' x) k f = mL u k f := rfl
theorem mV_c {u : gMem} {c i' : Nat} {x : Int32} {k f : Nat} (h : c ≠ 1) : mV (gwI u c i' x) k f = mV u k f := by unfold mV; rw [gI_r, if_neg (fun q => h q.1.symm)]
theorem mV_L {u : gMem} {c i' : Nat} {x : Int64} {k f : Nat} : mV (gwL u c i' x) k f = mV u k f := rfl
theorem mH_c {u : gMem} {c i' : Nat} {x : Int32} {h : Nat} (hc : c ≠ 1) : mH (gwI u c i' x) h = mH u h := by unfold mH; rw [gI_r, if_neg (fun q => hc q.1.symm)]
theorem mH_L {u : gMem} {c i' : Nat} {x : Int64} {h : Nat} : mH (gwL u c i' x) h = mH u h := rfl
theorem at_0 {u : gMem} {j : Nat} (h : j < 60) : mX10_at [.ref 0, .int (nI j), .int 0] u = some (some (.int (mA u j 0)), u) := by
  rw [eX10_at, show (42 + 20 * nI j + 0 : Int32) = nI (42 + 20 * j + 0) from by rw [show (42 : Int32) = nI 42 from rfl, show (20 : Int32) = nI 20 from rfl, show (0 : Int32) = nI 0 from rfl, nml, nad, nad], gin (by omega) (by omega), tn (by omega)]
  rfl
theorem lay_0 {u : gMem} {j : Nat} {x : Int32} (h : j < 60) : mX10_lay [.ref 0, .int (nI j), .int 0, .int x] u = some (none, wA u j 0 x) := by
  rw [eX10_lay, show (42 + 20 * nI j + 0 : Int32) = nI (42 + 20 * j + 0) from by rw [show (42 : Int32) = nI 42 from rfl, show (20 : Int32) = nI 20 from rfl, show (0 : Int32) = nI 0 from rfl, nml, nad, nad], gin (by omega) (by omega), tn (by omega)]
  rfl
theorem at_1 {u : gMem} {j : Nat} (h : j < 60) : mX10_at [.ref 0, .int (nI j), .int 1] u = some (some (.int (mA u j 1)), u) := by
  rw [eX10_at, show (42 + 20 * nI j + 1 : Int32) = nI (42 + 20 * j + 1) from by rw [show (42 : Int32) = nI 42 from rfl, show (20 : Int32) = nI 20 from rfl, show (1 : Int32) = nI 1 from rfl, nml, nad, nad], gin (by omega) (by omega), tn (by omega)]
  rfl
theorem lay_1 {u : gMem} {j : Nat} {x : Int32} (h : j < 60) : mX10_lay [.ref 0, .int (nI j), .int 1, .int x] u = some (none, wA u j 1 x) := by
  rw [eX10_lay, show (42 + 20 * nI j + 1 : Int32) = nI (42 + 20 * j + 1) from by rw [show (42 : Int32) = nI 42 from rfl, show (20 : Int32) = nI 20 from rfl, show (1 : Int32) = nI 1 from rfl, nml, nad, nad], gin (by omega) (by omega), tn (by omega)]
  rfl
theorem at_2 {u : gMem} {j : Nat} (h : j < 60) : mX10_at [.ref 0, .int (nI j), .int 2] u = some (some (.int (mA u j 2)), u) := by
  rw [eX10_at, show (42 + 20 * nI j + 2 : Int32) = nI (42 + 20 * j + 2) from by rw [show (42 : Int32) = nI 42 from rfl, show (20 : Int32) = nI 20 from rfl, show (2 : Int32) = nI 2 from rfl, nml, nad, nad], gin (by omega) (by omega), tn (by omega)]
  rfl
theorem lay_2 {u : gMem} {j : Nat} {x : Int32} (h : j < 60) : mX10_lay [.ref 0, .int (nI j), .int 2, .int x] u = some (none, wA u j 2 x) := by
  rw [eX10_lay, show (42 + 20 * nI j + 2 : Int32) = nI (42 + 20 * j + 2) from by rw [show (42 : Int32) = nI 42 from rfl, show (20 : Int32) = nI 20 from rfl, show (2 : Int32) = nI 2 from rfl, nml, nad, nad], gin (by omega) (by omega), tn (by omega)]
  rfl
theorem at_3 {u : gMem} {j : Nat} (h : j < 60) : mX10_at [.ref 0, .int (nI j), .int 3] u = some (some (.int (mA u j 3)), u) := by
  rw [eX10_at, show (42 + 20 * nI j + 3 : Int32) = nI (42 + 20 * j + 3) from by rw [show (42 : Int32) = nI 42 from rfl, show (20 : Int32) = nI 20 from rfl, show (3 : Int32) = nI 3 from rfl, nml, nad, nad], gin (by omega) (by omega), tn (by omega)]
  rfl
theorem lay_3 {u : gMem} {j : Nat} {x : Int32} (h : j < 60) : mX10_lay [.ref 0, .int (nI j), .int 3, .int x] u = some (none, wA u j 3 x) := by
  rw [eX10_lay, show (42 + 20 * nI j + 3 : Int32) = nI (42 + 20 * j + 3) from by rw [show (42 : Int32) = nI 42 from rfl, show (20 : Int32) = nI 20 from rfl, show (3 : Int32) = nI 3 from rfl, nml, nad, nad], gin (by omega) (by omega), tn (by omega)]
  rfl
theorem at_4 {u : gMem} {j : Nat} (h : j < 60) : mX10_at [.ref 0, .int (nI j), .int 4] u = some (some (.int (mA u j 4)), u) := by
  rw [eX10_at, show (42 + 20 * nI j + 4 : Int32) = nI (42 + 20 * j + 4) from by rw [show (42 : Int32) = nI 42 from rfl, show (20 : Int32) = nI 20 from rfl, show (4 : Int32) = nI 4 from rfl, nml, nad, nad], gin (by omega) (by omega), tn (by omega)]
  rfl
theorem lay_4 {u : gMem} {j : Nat} {x : Int32} (h : j < 60) : mX10_lay [.ref 0, .int (nI j), .int 4, .int x] u = some (none, wA u j 4 x) := by
  rw [eX10_lay, show (42 + 20 * nI j + 4 : Int32) = nI (42 + 20 * j + 4) from by rw [show (42 : Int32) = nI 42 from rfl, show (20 : Int32) = nI 20 from rfl, show (4 : Int32) = nI 4 from rfl, nml, nad, nad], gin (by omega) (by omega), tn (by omega)]
  rfl
theorem at_5 {u : gMem} {j : Nat} (h : j < 60) : mX10_at [.ref 0, .int (nI j), .int 5] u = some (some (.int (mA u j 5)), u) := by
  rw [eX10_at, show (42 + 20 * nI j + 5 : Int32) = nI (42 + 20 * j + 5) from by rw [show (42 : Int32) = nI 42 from rfl, show (20 : Int32) = nI 20 from rfl, show (5 : Int32) = nI 5 from rfl, nml, nad, nad], gin (by omega) (by omega), tn (by omega)]
  rfl
theorem lay_5 {u : gMem} {j : Nat} {x : Int32} (h : j < 60) : mX10_lay [.ref 0, .int (nI j), .int 5, .int x] u = some (none, wA u j 5 x) := by
  rw [eX10_lay, show (42 + 20 * nI j + 5 : Int32) = nI (42 + 20 * j + 5) from by rw [show (42 : Int32) = nI 42 from rfl, show (20 : Int32) = nI 20 from rfl, show (5 : Int32) = nI 5 from rfl, nml, nad, nad], gin (by omega) (by omega), tn (by omega)]
  rfl
theorem at_6 {u : gMem} {j : Nat} (h : j < 60) : mX10_at [.ref 0, .int (nI j), .int 6] u = some (some (.int (mA u j 6)), u) := by
  rw [eX10_at, show (42 + 20 * nI j + 6 : Int32) = nI (42 + 20 * j + 6) from by rw [show (42 : Int32) = nI 42 from rfl, show (20 : Int32) = nI 20 from rfl, show (6 : Int32) = nI 6 from rfl, nml, nad, nad], gin (by omega) (by omega), tn (by omega)]
  rfl
theorem lay_6 {u : gMem} {j : Nat} {x : Int32} (h : j < 60) : mX10_lay [.ref 0, .int (nI j), .int 6, .int x] u = some (none, wA u j 6 x) := by
  rw [eX10_lay, show (42 + 20 * nI j + 6 : Int32) = nI (42 + 20 * j + 6) from by rw [show (42 : Int32) = nI 42 from rfl, show (20 : Int32) = nI 20 from rfl, show (6 : Int32) = nI 6 from rfl, nml, nad, nad], gin (by omega) (by omega), tn (by omega)]
  rfl
theorem at_7 {u : gMem} {j : Nat} (h : j < 60) : mX10_at [.ref 0, .int (nI j), .int 7] u = some (some (.int (mA u j 7)), u) := by
  rw [eX10_at, show (42 + 20 * nI j + 7 : Int32) = nI (42 + 20 * j + 7) from by rw [show (42 : Int32) = nI 42 from rfl, show (20 : Int32) = nI 20 from rfl, show (7 : Int32) = nI 7 from rfl, nml, nad, nad], gin (by omega) (by omega), tn (by omega)]
  rfl
theorem lay_7 {u : gMem} {j : Nat} {x : Int32} (h : j < 60) : mX10_lay [.ref 0, .int (nI j), .int 7, .int x] u = some (none, wA u j 7 x) := by
  rw [eX10_lay, show (42 + 20 * nI j + 7 : Int32) = nI (42 + 20 * j + 7) from by rw [show (42 : Int32) = nI 42 from rfl, show (20 : Int32) = nI 20 from rfl, show (7 : Int32) = nI 7 from rfl, nml, nad, nad], gin (by omega) (by omega), tn (by omega)]
  rfl
theorem at_8 {u : gMem} {j : Nat} (h : j < 60) : mX10_at [.ref 0, .int (nI j), .int 8] u = some (some (.int (mA u j 8)), u) := by
  rw [eX10_at, show (42 + 20 * nI j + 8 : Int32) = nI (42 + 20 * j + 8) from by rw [show (42 : Int32) = nI 42 from rfl, show (20 : Int32) = nI 20 from rfl, show (8 : Int32) = nI 8 from rfl, nml, nad, nad], gin (by omega) (by omega), tn (by omega)]
  rfl
theorem lay_8 {u : gMem} {j : Nat} {x : Int32} (h : j < 60) : mX10_lay [.ref 0, .int (nI j), .int 8, .int x] u = some (none, wA u j 8 x) := by
  rw [eX10_lay, show (42 + 20 * nI j + 8 : Int32) = nI (42 + 20 * j + 8) from by rw [show (42 : Int32) = nI 42 from rfl, show (20 : Int32) = nI 20 from rfl, show (8 : Int32) = nI 8 from rfl, nml, nad, nad], gin (by omega) (by omega), tn (by omega)]
  rfl
theorem at_9 {u : gMem} {j : Nat} (h : j < 60) : mX10_at [.ref 0, .int (nI j), .int 9] u = some (some (.int (mA u j 9)), u) := by
  rw [eX10_at, show (42 + 20 * nI j + 9 : Int32) = nI (42 + 20 * j + 9) from by rw [show (42 : Int32) = nI 42 from rfl, show (20 : Int32) = nI 20 from rfl, show (9 : Int32) = nI 9 from rfl, nml, nad, nad], gin (by omega) (by omega), tn (by omega)]
  rfl
theorem lay_9 {u : gMem} {j : Nat} {x : Int32} (h : j < 60) : mX10_lay [.ref 0, .int (nI j), .int 9, .int x] u = some (none, wA u j 9 x) := by
  rw [eX10_lay, show (42 + 20 * nI j + 9 : Int32) = nI (42 + 20 * j + 9) from by rw [show (42 : Int32) = nI 42 from rfl, show (20 : Int32) = nI 20 from rfl, show (9 : Int32) = nI 9 from rfl, nml, nad, nad], gin (by omega) (by omega), tn (by omega)]
  rfl
theorem at_10 {u : gMem} {j : Nat} (h : j < 60) : mX10_at [.ref 0, .int (nI j), .int 10] u = some (some (.int (mA u j 10)), u) := by
  rw [eX10_at, show (42 + 20 * nI j + 10 : Int32) = nI (42 + 20 * j + 10) from by rw [show (42 : Int32) = nI 42 from rfl, show (20 : Int32) = nI 20 from rfl, show (10 : Int32) = nI 10 from rfl, nml, nad, nad], gin (by omega) (by omega), tn (by omega)]
  rfl
theorem lay_10 {u : gMem} {j : Nat} {x : Int32} (h : j < 60) : mX10_lay [.ref 0, .int (nI j), .int 10, .int x] u = some (none, wA u j 10 x) := by
  rw [eX10_lay, show (42 + 20 * nI j + 10 : Int32) = nI (42 + 20 * j + 10) from by rw [show (42 : Int32) = nI 42 from rfl, show (20 : Int32) = nI 20 from rfl, show (10 : Int32) = nI 10 from rfl, nml, nad, nad], gin (by omega) (by omega), tn (by omega)]
  rfl
theorem at_11 {u : gMem} {j : Nat} (h : j < 60) : mX10_at [.ref 0, .int (nI j), .int 11] u = some (some (.int (mA u j 11)), u) := by
  rw [eX10_at, show (42 + 20 * nI j + 11 : Int32) = nI (42 + 20 * j + 11) from by rw [show (42 : Int32) = nI 42 from rfl, show (20 : Int32) = nI 20 from rfl, show (11 : Int32) = nI 11 from rfl, nml, nad, nad], gin (by omega) (by omega), tn (by omega)]
  rfl
theorem lay_11 {u : gMem} {j : Nat} {x : Int32} (h : j < 60) : mX10_lay [.ref 0, .int (nI j), .int 11, .int x] u = some (none, wA u j 11 x) := by
  rw [eX10_lay, show (42 + 20 * nI j + 11 : Int32) = nI (42 + 20 * j + 11) from by rw [show (42 : Int32) = nI 42 from rfl, show (20 : Int32) = nI 20 from rfl, show (11 : Int32) = nI 11 from rfl, nml, nad, nad], gin (by omega) (by omega), tn (by omega)]
  rfl
theorem at_12 {u : gMem} {j : Nat} (h : j < 60) : mX10_at [.ref 0, .int (nI j), .int 12] u = some (some (.int (mA u j 12)), u) := by
  rw [eX10_at, show (42 + 20 * nI j + 12 : Int32) = nI (42 + 20 * j + 12) from by rw [show (42 : Int32) = nI 42 from rfl, show (20 : Int32) = nI 20 from rfl, show (12 : Int32) = nI 12 from rfl, nml, nad, nad], gin (by omega) (by omega), tn (by omega)]
  rfl
theorem lay_12 {u : gMem} {j : Nat} {x : Int32} (h : j < 60) : mX10_lay [.ref 0, .int (nI j), .int 12, .int x] u = some (none, wA u j 12 x) := by
  rw [eX10_lay, show (42 + 20 * nI j + 12 : Int32) = nI (42 + 20 * j + 12) from by rw [show (42 : Int32) = nI 42 from rfl, show (20 : Int32) = nI 20 from rfl, show (12 : Int32) = nI 12 from rfl, nml, nad, nad], gin (by omega) (by omega), tn (by omega)]
  rfl
theorem at_13 {u : gMem} {j : Nat} (h : j < 60) : mX10_at [.ref 0, .int (nI j), .int 13] u = some (some (.int (mA u j 13)), u) := by
  rw [eX10_at, show (42 + 20 * nI j + 13 : Int32) = nI (42 + 20 * j + 13) from by rw [show (42 : Int32) = nI 42 from rfl, show (20 : Int32) = nI 20 from rfl, show (13 : Int32) = nI 13 from rfl, nml, nad, nad], gin (by omega) (by omega), tn (by omega)]
  rfl
theorem lay_13 {u : gMem} {j : Nat} {x : Int32} (h : j < 60) : mX10_lay [.ref 0, .int (nI j), .int 13, .int x] u = some (none, wA u j 13 x) := by
  rw [eX10_lay, show (42 + 20 * nI j + 13 : Int32) = nI (42 + 20 * j + 13) from by rw [show (42 : Int32) = nI 42 from rfl, show (20 : Int32) = nI 20 from rfl, show (13 : Int32) = nI 13 from rfl, nml, nad, nad], gin (by omega) (by omega), tn (by omega)]
  rfl
theorem at_14 {u : gMem} {j : Nat} (h : j < 60) : mX10_at [.ref 0, .int (nI j), .int 14] u = some (some (.int (mA u j 14)), u) := by
  rw [eX10_at, show (42 + 20 * nI j + 14 : Int32) = nI (42 + 20 * j + 14) from by rw [show (42 : Int32) = nI 42 from rfl, show (20 : Int32) = nI 20 from rfl, show (14 : Int32) = nI 14 from rfl, nml, nad, nad], gin (by omega) (by omega), tn (by omega)]
  rfl
theorem lay_14 {u : gMem} {j : Nat} {x : Int32} (h : j < 60) : mX10_lay [.ref 0, .int (nI j), .int 14, .int x] u = some (none, wA u j 14 x) := by
  rw [eX10_lay, show (42 + 20 * nI j + 14 : Int32) = nI (42 + 20 * j + 14) from by rw [show (42 : Int32) = nI 42 from rfl, show (20 : Int32) = nI 20 from rfl, show (14 : Int32) = nI 14 from rfl, nml, nad, nad], gin (by omega) (by omega), tn (by omega)]
  rfl
theorem at_15 {u : gMem} {j : Nat} (h : j < 60) : mX10_at [.ref 0, .int (nI j), .int 15] u = some (some (.int (mA u j 15)), u) := by
  rw [eX10_at, show (42 + 20 * nI j + 15 : Int32) = nI (42 + 20 * j + 15) from by rw [show (42 : Int32) = nI 42 from rfl, show (20 : Int32) = nI 20 from rfl, show (15 : Int32) = nI 15 from rfl, nml, nad, nad], gin (by omega) (by omega), tn (by omega)]
  rfl
theorem lay_15 {u : gMem} {j : Nat} {x : Int32} (h : j < 60) : mX10_lay [.ref 0, .int (nI j), .int 15, .int x] u = some (none, wA u j 15 x) := by
  rw [eX10_lay, show (42 + 20 * nI j + 15 : Int32) = nI (42 + 20 * j + 15) from by rw [show (42 : Int32) = nI 42 from rfl, show (20 : Int32) = nI 20 from rfl, show (15 : Int32) = nI 15 from rfl, nml, nad, nad], gin (by omega) (by omega), tn (by omega)]
  rfl
theorem at_16 {u : gMem} {j : Nat} (h : j < 60) : mX10_at [.ref 0, .int (nI j), .int 16] u = some (some (.int (mA u j 16)), u) := by
  rw [eX10_at, show (42 + 20 * nI j + 16 : Int32) = nI (42 + 20 * j + 16) from by rw [show (42 : Int32) = nI 42 from rfl, show (20 : Int32) = nI 20 from rfl, show (16 : Int32) = nI 16 from rfl, nml, nad, nad], gin (by omega) (by omega), tn (by omega)]
  rfl
theorem lay_16 {u : gMem} {j : Nat} {x : Int32} (h : j < 60) : mX10_lay [.ref 0, .int (nI j), .int 16, .int x] u = some (none, wA u j 16 x) := by
  rw [eX10_lay, show (42 + 20 * nI j + 16 : Int32) = nI (42 + 20 * j + 16) from by rw [show (42 : Int32) = nI 42 from rfl, show (20 : Int32) = nI 20 from rfl, show (16 : Int32) = nI 16 from rfl, nml, nad, nad], gin (by omega) (by omega), tn (by omega)]
  rfl
theorem at_17 {u : gMem} {j : Nat} (h : j < 60) : mX10_at [.ref 0, .int (nI j), .int 17] u = some (some (.int (mA u j 17)), u) := by
  rw [eX10_at, show (42 + 20 * nI j + 17 : Int32) = nI (42 + 20 * j + 17) from by rw [show (42 : Int32) = nI 42 from rfl, show (20 : Int32) = nI 20 from rfl, show (17 : Int32) = nI 17 from rfl, nml, nad, nad], gin (by omega) (by omega), tn (by omega)]
  rfl
theorem lay_17 {u : gMem} {j : Nat} {x : Int32} (h : j < 60) : mX10_lay [.ref 0, .int (nI j), .int 17, .int x] u = some (none, wA u j 17 x) := by
  rw [eX10_lay, show (42 + 20 * nI j + 17 : Int32) = nI (42 + 20 * j + 17) from by rw [show (42 : Int32) = nI 42 from rfl, show (20 : Int32) = nI 20 from rfl, show (17 : Int32) = nI 17 from rfl, nml, nad, nad], gin (by omega) (by omega), tn (by omega)]
  rfl
theorem at_18 {u : gMem} {j : Nat} (h : j < 60) : mX10_at [.ref 0, .int (nI j), .int 18] u = some (some (.int (mA u j 18)), u) := by
  rw [eX10_at, show (42 + 20 * nI j + 18 : Int32) = nI (42 + 20 * j + 18) from by rw [show (42 : Int32) = nI 42 from rfl, show (20 : Int32) = nI 20 from rfl, show (18 : Int32) = nI 18 from rfl, nml, nad, nad], gin (by omega) (by omega), tn (by omega)]
  rfl
theorem lay_18 {u : gMem} {j : Nat} {x : Int32} (h : j < 60) : mX10_lay [.ref 0, .int (nI j), .int 18, .int x] u = some (none, wA u j 18 x) := by
  rw [eX10_lay, show (42 + 20 * nI j + 18 : Int32) = nI (42 + 20 * j + 18) from by rw [show (42 : Int32) = nI 42 from rfl, show (20 : Int32) = nI 20 from rfl, show (18 : Int32) = nI 18 from rfl, nml, nad, nad], gin (by omega) (by omega), tn (by omega)]
  rfl
theorem at_19 {u : gMem} {j : Nat} (h : j < 60) : mX10_at [.ref 0, .int (nI j), .int 19] u = some (some (.int (mA u j 19)), u) := by
  rw [eX10_at, show (42 + 20 * nI j + 19 : Int32) = nI (42 + 20 * j + 19) from by rw [show (42 : Int32) = nI 42 from rfl, show (20 : Int32) = nI 20 from rfl, show (19 : Int32) = nI 19 from rfl, nml, nad, nad], gin (by omega) (by omega), tn (by omega)]
  rfl
theorem lay_19 {u : gMem} {j : Nat} {x : Int32} (h : j < 60) : mX10_lay [.ref 0, .int (nI j), .int 19, .int x] u = some (none, wA u j 19 x) := by
  rw [eX10_lay, show (42 + 20 * nI j + 19 : Int32) = nI (42 + 20 * j + 19) from by rw [show (42 : Int32) = nI 42 from rfl, show (20 : Int32) = nI 20 from rfl, show (19 : Int32) = nI 19 from rfl, nml, nad, nad], gin (by omega) (by omega), tn (by omega)]
  rfl
theorem lay_n {u : gMem} {j w : Nat} {x : Int32} (h : j < 60) (hw : w < 20) : mX10_lay [.ref 0, .int (nI j), .int (nI w), .int x] u = some (none, wA u j w x) := by
  rw [eX10_lay, show (42 + 20 * nI j + nI w : Int32) = nI (42 + 20 * j + w) from by rw [show (42 : Int32) = nI 42 from rfl, show (20 : Int32) = nI 20 from rfl, nml, nad, nad], gin (by omega) (by omega), tn (by omega)]
  rfl
theorem at_n {u : gMem} {j w : Nat} (h : j < 60) (hw : w < 20) : mX10_at [.ref 0, .int (nI j), .int (nI w)] u = some (some (.int (mA u j w)), u) := by
  rw [eX10_at, show (42 + 20 * nI j + nI w : Int32) = nI (42 + 20 * j + w) from by rw [show (42 : Int32) = nI 42 from rfl, show (20 : Int32) = nI 20 from rfl, nml, nad, nad], gin (by omega) (by omega), tn (by omega)]
  rfl
theorem more_10 {u : gMem} {x : Int32} : mX10_more [.ref 0, .int 10, .int x] u = some (none, wH u 10 (u.1 1 10 + x)) := by rw [eX10_more, show (10 : Int32) = nI 10 from rfl, gin (by omega) (by omega), tn (by omega)]; rfl
theorem more_11 {u : gMem} {x : Int32} : mX10_more [.ref 0, .int 11, .int x] u = some (none, wH u 11 (u.1 1 11 + x)) := by rw [eX10_more, show (11 : Int32) = nI 11 from rfl, gin (by omega) (by omega), tn (by omega)]; rfl
theorem more_12 {u : gMem} {x : Int32} : mX10_more [.ref 0, .int 12, .int x] u = some (none, wH u 12 (u.1 1 12 + x)) := by rw [eX10_more, show (12 : Int32) = nI 12 from rfl, gin (by omega) (by omega), tn (by omega)]; rfl
theorem more_13 {u : gMem} {x : Int32} : mX10_more [.ref 0, .int 13, .int x] u = some (none, wH u 13 (u.1 1 13 + x)) := by rw [eX10_more, show (13 : Int32) = nI 13 from rfl, gin (by omega) (by omega), tn (by omega)]; rfl
theorem more_14 {u : gMem} {x : Int32} : mX10_more [.ref 0, .int 14, .int x] u = some (none, wH u 14 (u.1 1 14 + x)) := by rw [eX10_more, show (14 : Int32) = nI 14 from rfl, gin (by omega) (by omega), tn (by omega)]; rfl
theorem more_15 {u : gMem} {x : Int32} : mX10_more [.ref 0, .int 15, .int x] u = some (none, wH u 15 (u.1 1 15 + x)) := by rw [eX10_more, show (15 : Int32) = nI 15 from rfl, gin (by omega) (by omega), tn (by omega)]; rfl
theorem more_16 {u : gMem} {x : Int32} : mX10_more [.ref 0, .int 16, .int x] u = some (none, wH u 16 (u.1 1 16 + x)) := by rw [eX10_more, show (16 : Int32) = nI 16 from rfl, gin (by omega) (by omega), tn (by omega)]; rfl
theorem more_17 {u : gMem} {x : Int32} : mX10_more [.ref 0, .int 17, .int x] u = some (none, wH u 17 (u.1 1 17 + x)) := by rw [eX10_more, show (17 : Int32) = nI 17 from rfl, gin (by omega) (by omega), tn (by omega)]; rfl
theorem more_18 {u : gMem} {x : Int32} : mX10_more [.ref 0, .int 18, .int x] u = some (none, wH u 18 (u.1 1 18 + x)) := by rw [eX10_more, show (18 : Int32) = nI 18 from rfl, gin (by omega) (by omega), tn (by omega)]; rfl
theorem more_19 {u : gMem} {x : Int32} : mX10_more [.ref 0, .int 19, .int x] u = some (none, wH u 19 (u.1 1 19 + x)) := by rw [eX10_more, show (19 : Int32) = nI 19 from rfl, gin (by omega) (by omega), tn (by omega)]; rfl
theorem more_20 {u : gMem} {x : Int32} : mX10_more [.ref 0, .int 20, .int x] u = some (none, wH u 20 (u.1 1 20 + x)) := by rw [eX10_more, show (20 : Int32) = nI 20 from rfl, gin (by omega) (by omega), tn (by omega)]; rfl
theorem more_21 {u : gMem} {x : Int32} : mX10_more [.ref 0, .int 21, .int x] u = some (none, wH u 21 (u.1 1 21 + x)) := by rw [eX10_more, show (21 : Int32) = nI 21 from rfl, gin (by omega) (by omega), tn (by omega)]; rfl
theorem more_22 {u : gMem} {x : Int32} : mX10_more [.ref 0, .int 22, .int x] u = some (none, wH u 22 (u.1 1 22 + x)) := by rw [eX10_more, show (22 : Int32) = nI 22 from rfl, gin (by omega) (by omega), tn (by omega)]; rfl
theorem more_23 {u : gMem} {x : Int32} : mX10_more [.ref 0, .int 23, .int x] u = some (none, wH u 23 (u.1 1 23 + x)) := by rw [eX10_more, show (23 : Int32) = nI 23 from rfl, gin (by omega) (by omega), tn (by omega)]; rfl
theorem more_24 {u : gMem} {x : Int32} : mX10_more [.ref 0, .int 24, .int x] u = some (none, wH u 24 (u.1 1 24 + x)) := by rw [eX10_more, show (24 : Int32) = nI 24 from rfl, gin (by omega) (by omega), tn (by omega)]; rfl
theorem more_25 {u : gMem} {x : Int32} : mX10_more [.ref 0, .int 25, .int x] u = some (none, wH u 25 (u.1 1 25 + x)) := by rw [eX10_more, show (25 : Int32) = nI 25 from rfl, gin (by omega) (by omega), tn (by omega)]; rfl
theorem more_26 {u : gMem} {x : Int32} : mX10_more [.ref 0, .int 26, .int x] u = some (none, wH u 26 (u.1 1 26 + x)) := by rw [eX10_more, show (26 : Int32) = nI 26 from rfl, gin (by omega) (by omega), tn (by omega)]; rfl
theorem more_27 {u : gMem} {x : Int32} : mX10_more [.ref 0, .int 27, .int x] u = some (none, wH u 27 (u.1 1 27 + x)) := by rw [eX10_more, show (27 : Int32) = nI 27 from rfl, gin (by omega) (by omega), tn (by omega)]; rfl
theorem more_28 {u : gMem} {x : Int32} : mX10_more [.ref 0, .int 28, .int x] u = some (none, wH u 28 (u.1 1 28 + x)) := by rw [eX10_more, show (28 : Int32) = nI 28 from rfl, gin (by omega) (by omega), tn (by omega)]; rfl
theorem set_0 {u : gMem} : mX10_settingOf [.ref 0, .int 0] u = some (some (.int (u.1 1 0 + 16)), u) := by rw [eX10_settingOf, show (0 : Int32) = nI 0 from rfl, gin (by omega) (by omega), tn (by omega)]; rw [eX10_firstOf]; rfl
theorem set_1 {u : gMem} : mX10_settingOf [.ref 0, .int 1] u = some (some (.int (u.1 1 1 + 4)), u) := by rw [eX10_settingOf, show (1 : Int32) = nI 1 from rfl, gin (by omega) (by omega), tn (by omega)]; rw [eX10_firstOf]; rfl
theorem set_2 {u : gMem} : mX10_settingOf [.ref 0, .int 2] u = some (some (.int (u.1 1 2 + 0)), u) := by rw [eX10_settingOf, show (2 : Int32) = nI 2 from rfl, gin (by omega) (by omega), tn (by omega)]; rw [eX10_firstOf]; rfl
theorem set_3 {u : gMem} : mX10_settingOf [.ref 0, .int 3] u = some (some (.int (u.1 1 3 + 0)), u) := by rw [eX10_settingOf, show (3 : Int32) = nI 3 from rfl, gin (by omega) (by omega), tn (by omega)]; rw [eX10_firstOf]; rfl
theorem set_4 {u : gMem} : mX10_settingOf [.ref 0, .int 4] u = some (some (.int (u.1 1 4 + 0)), u) := by rw [eX10_settingOf, show (4 : Int32) = nI 4 from rfl, gin (by omega) (by omega), tn (by omega)]; rw [eX10_firstOf]; rfl
theorem set_5 {u : gMem} : mX10_settingOf [.ref 0, .int 5] u = some (some (.int (u.1 1 5 + 10)), u) := by rw [eX10_settingOf, show (5 : Int32) = nI 5 from rfl, gin (by omega) (by omega), tn (by omega)]; rw [eX10_firstOf]; rfl
theorem set_6 {u : gMem} : mX10_settingOf [.ref 0, .int 6] u = some (some (.int (u.1 1 6 + 1)), u) := by rw [eX10_settingOf, show (6 : Int32) = nI 6 from rfl, gin (by omega) (by omega), tn (by omega)]; rw [eX10_firstOf]; rfl
theorem set_7 {u : gMem} : mX10_settingOf [.ref 0, .int 7] u = some (some (.int (u.1 1 7 + 0)), u) := by rw [eX10_settingOf, show (7 : Int32) = nI 7 from rfl, gin (by omega) (by omega), tn (by omega)]; rw [eX10_firstOf]; rfl
theorem set_8 {u : gMem} : mX10_settingOf [.ref 0, .int 8] u = some (some (.int (u.1 1 8 + 1)), u) := by rw [eX10_settingOf, show (8 : Int32) = nI 8 from rfl, gin (by omega) (by omega), tn (by omega)]; rw [eX10_firstOf]; rfl
theorem set_9 {u : gMem} : mX10_settingOf [.ref 0, .int 9] u = some (some (.int (u.1 1 9 + 1)), u) := by rw [eX10_settingOf, show (9 : Int32) = nI 9 from rfl, gin (by omega) (by omega), tn (by omega)]; rw [eX10_firstOf]; rfl
theorem cols {u : gMem} : mX10_columns [.ref 0] u = some (some (.int (u.1 1 0 + 16)), u) := by rw [eX10_columns, set_0]; rfl
theorem wA_h {u : gMem} {j w : Nat} {x : Int32} {h : Nat} (hh : h < 42) : (wA u j w x).1 1 h = u.1 1 h := by unfold wA; rw [gI_r, if_neg (by omega)]
theorem wR_h {u : gMem} {i k : Nat} {x : Int32} {h : Nat} (hh : h < 42) : (wR u i k x).1 1 h = u.1 1 h := by unfold wR; rw [gI_r, if_neg (by omega)]
theorem wT_h {u : gMem} {s : Nat} {x : Int32} {h : Nat} (hh : h < 42) : (wT u s x).1 1 h = u.1 1 h := by unfold wT; rw [gI_r, if_neg (by omega)]
theorem wL_h {u : gMem} {k f : Nat} {x : Int32} {h : Nat} (hh : h < 42) : (wL u k f x).1 1 h = u.1 1 h := by unfold wL; rw [gI_r, if_neg (by omega)]
theorem wV_h {u : gMem} {k f : Nat} {x : Int32} {h : Nat} (hh : h < 42) : (wV u k f x).1 1 h = u.1 1 h := by unfold wV; rw [gI_r, if_neg (by omega)]
theorem wH_h {u : gMem} {k : Nat} {x : Int32} {h : Nat} : (wH u k x).1 1 h = if h = k then x else u.1 1 h := by unfold wH; rw [gI_r]; simp
