/-! orders of people, told by n digits; lists by program (tools/gen58.py) -/
def dig (n k j : Nat) : Nat := eN n k (n - 1 - j)
def snN (n k : Nat) : Nat → Nat
  | 0 => 0
  | t + 1 => snN n k t ||| 2 ^ eN n k t
/-- each of n is there once -/
def isPm (n k : Nat) : Bool := Nat.beq (pop (snN n k n)) n
def besU (f : Nat → Nat) (b : Nat × Nat) (k : Nat) : Nat × Nat := if b.2 ≤ f k then (k, f k + 1) else b
def stB (n : Nat) (f : Nat → Nat) (k : Nat) (b : Nat × Nat) : Nat × Nat := if isPm n k = true then besU f b k else b
/-- the best of the orders among l numbers from a on -/
def rfN (n : Nat) (f : Nat → Nat) (a : Nat) : Nat → Nat × Nat → Nat × Nat
  | 0, b => b
  | l + 1, b => stB n f (a + l) (rfN n f a l b)
def noP (n a : Nat) : Nat → Bool
  | 0 => true
  | l + 1 => !isPm n (a + l) && noP n a l
/-- from a to e the orders are just these -/
def rch (n : Nat) : List Nat → Nat → Nat → Bool
  | [], a, e => noP n a (e - a)
  | k :: L, a, e => Nat.ble a k && (noP n a (k - a) && (isPm n k && (Nat.blt k e && rch n L (k + 1) e)))
theorem rfN_add (n : Nat) (f : Nat → Nat) (a l : Nat) (b : Nat × Nat) : ∀ m, rfN n f a (l + m) b = rfN n f (a + l) m (rfN n f a l b)
  | 0 => rfl
  | m + 1 => by
    show stB n f (a + (l + m)) (rfN n f a (l + m) b) = stB n f (a + l + m) (rfN n f (a + l) m (rfN n f a l b))
    rw [rfN_add n f a l b m, Nat.add_assoc]
theorem noP_rf {n a : Nat} {f : Nat → Nat} : ∀ {l : Nat} {b : Nat × Nat}, noP n a l = true → rfN n f a l b = b
  | 0, _, _ => rfl
  | l + 1, b, h => by
    unfold noP at h
    rw [Bool.and_eq_true] at h
    show stB n f (a + l) (rfN n f a l b) = b
    rw [noP_rf h.2]
    unfold stB
    have : ¬ isPm n (a + l) = true := by have := h.1; simp at this; rw [this]; decide
    rw [if_neg this]
theorem rch_fold {n : Nat} {f : Nat → Nat} : ∀ {L : List Nat} {a e : Nat} {b : Nat × Nat}, rch n L a e = true → a ≤ e → rfN n f a (e - a) b = L.foldl (besU f) b
  | [], a, e, b, h, _ => noP_rf h
  | k :: L, a, e, b, h, hae => by
    unfold rch at h
    rw [Bool.and_eq_true, Bool.and_eq_true, Bool.and_eq_true, Bool.and_eq_true] at h
    obtain ⟨h1, h2, h3, h4, h5⟩ := h
    have h1' : a ≤ k := Nat.le_of_ble_eq_true h1
    have h4' : k < e := Nat.le_of_ble_eq_true h4
    have e1 : e - a = (k - a) + (1 + (e - (k + 1))) := by omega
    rw [e1, rfN_add, noP_rf h2, rfN_add, show a + (k - a) = k by omega]
    rw [rch_fold h5 (by omega)]
    have e2 : rfN n f k 1 b = besU f b k := by
      show stB n f (k + 0) b = _
      unfold stB
      rw [Nat.add_zero, if_pos h3]
    rw [e2]
    rfl
-- the next order
/-- one more than the last place that is less than the one behind; 0: none -/
def rzN (g : Nat → Nat) : Nat → Nat
  | 0 => 0
  | m + 1 => if g (m + 1) < g m then rzN g m else m + 1
def nqN (g : Nat → Nat) (p : Nat) : Nat → Nat
  | 0 => 0
  | q + 1 => if q + 1 ≤ p then q + 1 else if g p ≤ g (q + 1) then q + 1 else nqN g p q
def swG (g : Nat → Nat) (a c : Nat) : Nat → Nat := fun j => if j = c then g a else if j = a then g c else g j
def rvF : Nat → (Nat → Nat) → Nat → Nat → Nat → Nat
  | 0, g, _, _ => g
  | t + 1, g, a, c => if c ≤ a then g else rvF t (swG g a c) (a + 1) (c - 1)
def nxR (n : Nat) (g : Nat → Nat) : Nat → Nat := if rzN g (n - 1) = 0 then g else rvF 6 (swG g (rzN g (n - 1) - 1) (nqN g (rzN g (n - 1) - 1) (n - 1))) (rzN g (n - 1)) (n - 1)
def nxOK (n k1 k2 : Nat) : Bool := (List.range n).all fun j => Nat.beq (nxR n (dig n k1) j) (dig n k2 j)
def nxA (n : Nat) : List Nat → Bool
  | [] => true
  | [_] => true
  | k1 :: k2 :: L => nxOK n k1 k2 && nxA n (k2 :: L)
theorem nxA_at {n : Nat} : ∀ {L : List Nat} {i a c : Nat}, nxA n L = true → L[i]? = some a → L[i + 1]? = some c → nxOK n a c = true
  | [], i, a, c, _, h, _ => by simp at h
  | [k], i, a, c, _, _, h => by simp at h
  | k1 :: k2 :: L, 0, a, c, h, h1, h2 => by
    unfold nxA at h
    rw [Bool.and_eq_true] at h
    simp at h1 h2
    rw [← h1, ← h2]; exact h.1
  | k1 :: k2 :: L, i + 1, a, c, h, h1, h2 => by
    unfold nxA at h
    rw [Bool.and_eq_true] at h
    exact nxA_at (L := k2 :: L) (i := i) h.2 (by simpa using h1) (by simpa using h2)

def PL1 : List Nat := [0]
theorem pl1 : rch 1 PL1 0 (1 ^ 1) = true := by decide +kernel
theorem nx1 : nxA 1 PL1 = true := by decide +kernel
def PL2 : List Nat := [1, 2]
theorem pl2 : rch 2 PL2 0 (2 ^ 2) = true := by decide +kernel
theorem nx2 : nxA 2 PL2 = true := by decide +kernel
def PL3 : List Nat := [5, 7, 11, 15, 19, 21]
theorem pl3 : rch 3 PL3 0 (3 ^ 3) = true := by decide +kernel
theorem nx3 : nxA 3 PL3 = true := by decide +kernel
def PL4 : List Nat := [27, 30, 39, 45, 54, 57, 75, 78, 99, 108, 114, 120, 135, 141, 147, 156, 177, 180, 198, 201, 210, 216, 225, 228]
theorem pl4 : rch 4 PL4 0 (4 ^ 4) = true := by decide +kernel
theorem nx4 : nxA 4 PL4 = true := by decide +kernel
def PL5 : List Nat := [194, 198, 214, 222, 238, 242, 294, 298, 334, 346, 358, 366, 414, 422, 434, 446, 482, 486, 538, 542, 558, 566, 582, 586, 694, 698, 714, 722, 738, 742, 894, 898, 954, 970, 978, 990, 1014, 1022, 1054, 1070, 1102, 1110, 1138, 1142, 1178, 1190, 1202, 1210, 1294, 1298, 1334, 1346, 1358, 1366, 1394, 1398, 1454, 1470, 1478, 1490, 1634, 1646, 1654, 1670, 1726, 1730, 1758, 1766, 1778, 1790, 1826, 1830, 1914, 1922, 1934, 1946, 1982, 1986, 2014, 2022, 2054, 2070, 2102, 2110, 2134, 2146, 2154, 2170, 2226, 2230, 2382, 2386, 2402, 2410, 2426, 2430, 2538, 2542, 2558, 2566, 2582, 2586, 2638, 2642, 2678, 2690, 2702, 2710, 2758, 2766, 2778, 2790, 2826, 2830, 2882, 2886, 2902, 2910, 2926, 2930]
theorem pl5 : rch 5 PL5 0 (5 ^ 5) = true := by decide +kernel
theorem nx5 : nxA 5 PL5 = true := by decide +kernel
def PL6_0 : List Nat := []
theorem pl6_0 : rch 6 PL6_0 0 1296 = true := by decide +kernel
def PL6_1 : List Nat := [1865, 1870, 1895, 1905, 1930, 1935, 2045, 2050, 2105, 2120, 2140, 2150, 2255, 2265, 2285, 2300, 2355, 2360, 2470, 2475, 2500, 2510, 2535, 2540]
theorem pl6_1 : rch 6 PL6_1 1296 2592 = true := by decide +kernel
def PL6_2 : List Nat := [2945, 2950, 2975, 2985, 3010, 3015, 3305, 3310, 3395, 3415, 3430, 3445, 3515, 3525, 3575, 3595, 3645, 3655, 3730, 3735, 3790, 3805, 3825, 3835]
theorem pl6_2 : rch 6 PL6_2 2592 3888 = true := by decide +kernel
def PL6_3 : List Nat := [4205, 4210, 4265, 4280, 4300, 4310, 4385, 4390, 4475, 4495, 4510, 4525, 4805, 4820, 4835, 4855, 4940, 4945, 5020, 5030, 5050, 5065, 5120, 5125]
theorem pl6_3 : rch 6 PL6_3 3888 5184 = true := by decide +kernel
def PL6_4 : List Nat := [5495, 5505, 5525, 5540, 5595, 5600, 5675, 5685, 5735, 5755, 5805, 5815, 5885, 5900, 5915, 5935, 6020, 6025, 6315, 6320, 6345, 6355, 6380, 6385]
theorem pl6_4 : rch 6 PL6_4 5184 6480 = true := by decide +kernel
def PL6_5 : List Nat := [6790, 6795, 6820, 6830, 6855, 6860, 6970, 6975, 7030, 7045, 7065, 7075, 7180, 7190, 7210, 7225, 7280, 7285, 7395, 7400, 7425, 7435, 7460, 7465]
theorem pl6_5 : rch 6 PL6_5 6480 7776 = true := by decide +kernel
def PL6_6 : List Nat := [8345, 8350, 8375, 8385, 8410, 8415, 8525, 8530, 8585, 8600, 8620, 8630, 8735, 8745, 8765, 8780, 8835, 8840, 8950, 8955, 8980, 8990, 9015, 9020]
theorem pl6_6 : rch 6 PL6_6 7776 9072 = true := by decide +kernel
def PL6_7 : List Nat := []
theorem pl6_7 : rch 6 PL6_7 9072 10368 = true := by decide +kernel
def PL6_8 : List Nat := [10505, 10510, 10535, 10545, 10570, 10575, 11045, 11050, 11165, 11190, 11200, 11220, 11255, 11265, 11345, 11370, 11415, 11430, 11470, 11475, 11560, 11580, 11595, 11610]
theorem pl6_8 : rch 6 PL6_8 10368 11664 = true := by decide +kernel
def PL6_9 : List Nat := [11765, 11770, 11825, 11840, 11860, 11870, 12125, 12130, 12245, 12270, 12280, 12300, 12545, 12560, 12605, 12630, 12710, 12720, 12760, 12770, 12820, 12840, 12890, 12900]
theorem pl6_9 : rch 6 PL6_9 11664 12960 = true := by decide +kernel
def PL6_10 : List Nat := [13055, 13065, 13085, 13100, 13155, 13160, 13415, 13425, 13505, 13530, 13575, 13590, 13625, 13640, 13685, 13710, 13790, 13800, 14055, 14060, 14115, 14130, 14150, 14160]
theorem pl6_10 : rch 6 PL6_10 12960 14256 = true := by decide +kernel
def PL6_11 : List Nat := [14350, 14355, 14380, 14390, 14415, 14420, 14710, 14715, 14800, 14820, 14835, 14850, 14920, 14930, 14980, 15000, 15050, 15060, 15135, 15140, 15195, 15210, 15230, 15240]
theorem pl6_11 : rch 6 PL6_11 14256 15552 = true := by decide +kernel
def PL6_12 : List Nat := [15905, 15910, 15935, 15945, 15970, 15975, 16265, 16270, 16355, 16375, 16390, 16405, 16475, 16485, 16535, 16555, 16605, 16615, 16690, 16695, 16750, 16765, 16785, 16795]
theorem pl6_12 : rch 6 PL6_12 15552 16848 = true := by decide +kernel
def PL6_13 : List Nat := [16985, 16990, 17015, 17025, 17050, 17055, 17525, 17530, 17645, 17670, 17680, 17700, 17735, 17745, 17825, 17850, 17895, 17910, 17950, 17955, 18040, 18060, 18075, 18090]
theorem pl6_13 : rch 6 PL6_13 16848 18144 = true := by decide +kernel
def PL6_14 : List Nat := []
theorem pl6_14 : rch 6 PL6_14 18144 19440 = true := by decide +kernel
def PL6_15 : List Nat := [19505, 19510, 19595, 19615, 19630, 19645, 19685, 19690, 19805, 19830, 19840, 19860, 20315, 20335, 20345, 20370, 20485, 20490, 20530, 20545, 20560, 20580, 20665, 20670]
theorem pl6_15 : rch 6 PL6_15 19440 20736 = true := by decide +kernel
def PL6_16 : List Nat := [20795, 20805, 20855, 20875, 20925, 20935, 20975, 20985, 21065, 21090, 21135, 21150, 21395, 21415, 21425, 21450, 21565, 21570, 21825, 21835, 21855, 21870, 21925, 21930]
theorem pl6_16 : rch 6 PL6_16 20736 22032 = true := by decide +kernel
def PL6_17 : List Nat := [22090, 22095, 22150, 22165, 22185, 22195, 22270, 22275, 22360, 22380, 22395, 22410, 22690, 22705, 22720, 22740, 22825, 22830, 22905, 22915, 22935, 22950, 23005, 23010]
theorem pl6_17 : rch 6 PL6_17 22032 23328 = true := by decide +kernel
def PL6_18 : List Nat := [23645, 23650, 23705, 23720, 23740, 23750, 23825, 23830, 23915, 23935, 23950, 23965, 24245, 24260, 24275, 24295, 24380, 24385, 24460, 24470, 24490, 24505, 24560, 24565]
theorem pl6_18 : rch 6 PL6_18 23328 24624 = true := by decide +kernel
def PL6_19 : List Nat := [24725, 24730, 24785, 24800, 24820, 24830, 25085, 25090, 25205, 25230, 25240, 25260, 25505, 25520, 25565, 25590, 25670, 25680, 25720, 25730, 25780, 25800, 25850, 25860]
theorem pl6_19 : rch 6 PL6_19 24624 25920 = true := by decide +kernel
def PL6_20 : List Nat := [25985, 25990, 26075, 26095, 26110, 26125, 26165, 26170, 26285, 26310, 26320, 26340, 26795, 26815, 26825, 26850, 26965, 26970, 27010, 27025, 27040, 27060, 27145, 27150]
theorem pl6_20 : rch 6 PL6_20 25920 27216 = true := by decide +kernel
def PL6_21 : List Nat := []
theorem pl6_21 : rch 6 PL6_21 27216 28512 = true := by decide +kernel
def PL6_22 : List Nat := [28565, 28580, 28595, 28615, 28700, 28705, 28745, 28760, 28805, 28830, 28910, 28920, 28955, 28975, 28985, 29010, 29125, 29130, 29600, 29605, 29630, 29640, 29665, 29670]
theorem pl6_22 : rch 6 PL6_22 28512 29808 = true := by decide +kernel
def PL6_23 : List Nat := [29860, 29870, 29890, 29905, 29960, 29965, 30040, 30050, 30100, 30120, 30170, 30180, 30250, 30265, 30280, 30300, 30385, 30390, 30680, 30685, 30710, 30720, 30745, 30750]
theorem pl6_23 : rch 6 PL6_23 29808 31104 = true := by decide +kernel
def PL6_24 : List Nat := [31415, 31425, 31445, 31460, 31515, 31520, 31595, 31605, 31655, 31675, 31725, 31735, 31805, 31820, 31835, 31855, 31940, 31945, 32235, 32240, 32265, 32275, 32300, 32305]
theorem pl6_24 : rch 6 PL6_24 31104 32400 = true := by decide +kernel
def PL6_25 : List Nat := [32495, 32505, 32525, 32540, 32595, 32600, 32855, 32865, 32945, 32970, 33015, 33030, 33065, 33080, 33125, 33150, 33230, 33240, 33495, 33500, 33555, 33570, 33590, 33600]
theorem pl6_25 : rch 6 PL6_25 32400 33696 = true := by decide +kernel
def PL6_26 : List Nat := [33755, 33765, 33815, 33835, 33885, 33895, 33935, 33945, 34025, 34050, 34095, 34110, 34355, 34375, 34385, 34410, 34525, 34530, 34785, 34795, 34815, 34830, 34885, 34890]
theorem pl6_26 : rch 6 PL6_26 33696 34992 = true := by decide +kernel
def PL6_27 : List Nat := [35045, 35060, 35075, 35095, 35180, 35185, 35225, 35240, 35285, 35310, 35390, 35400, 35435, 35455, 35465, 35490, 35605, 35610, 36080, 36085, 36110, 36120, 36145, 36150]
theorem pl6_27 : rch 6 PL6_27 34992 36288 = true := by decide +kernel
def PL6_28 : List Nat := []
theorem pl6_28 : rch 6 PL6_28 36288 37584 = true := by decide +kernel
def PL6_29 : List Nat := [37635, 37640, 37665, 37675, 37700, 37705, 37815, 37820, 37875, 37890, 37910, 37920, 38025, 38035, 38055, 38070, 38125, 38130, 38240, 38245, 38270, 38280, 38305, 38310]
theorem pl6_29 : rch 6 PL6_29 37584 38880 = true := by decide +kernel
def PL6_30 : List Nat := [39190, 39195, 39220, 39230, 39255, 39260, 39370, 39375, 39430, 39445, 39465, 39475, 39580, 39590, 39610, 39625, 39680, 39685, 39795, 39800, 39825, 39835, 39860, 39865]
theorem pl6_30 : rch 6 PL6_30 38880 40176 = true := by decide +kernel
def PL6_31 : List Nat := [40270, 40275, 40300, 40310, 40335, 40340, 40630, 40635, 40720, 40740, 40755, 40770, 40840, 40850, 40900, 40920, 40970, 40980, 41055, 41060, 41115, 41130, 41150, 41160]
theorem pl6_31 : rch 6 PL6_31 40176 41472 = true := by decide +kernel
def PL6_32 : List Nat := [41530, 41535, 41590, 41605, 41625, 41635, 41710, 41715, 41800, 41820, 41835, 41850, 42130, 42145, 42160, 42180, 42265, 42270, 42345, 42355, 42375, 42390, 42445, 42450]
theorem pl6_32 : rch 6 PL6_32 41472 42768 = true := by decide +kernel
def PL6_33 : List Nat := [42820, 42830, 42850, 42865, 42920, 42925, 43000, 43010, 43060, 43080, 43130, 43140, 43210, 43225, 43240, 43260, 43345, 43350, 43640, 43645, 43670, 43680, 43705, 43710]
theorem pl6_33 : rch 6 PL6_33 42768 44064 = true := by decide +kernel
def PL6_34 : List Nat := [44115, 44120, 44145, 44155, 44180, 44185, 44295, 44300, 44355, 44370, 44390, 44400, 44505, 44515, 44535, 44550, 44605, 44610, 44720, 44725, 44750, 44760, 44785, 44790]
theorem pl6_34 : rch 6 PL6_34 44064 45360 = true := by decide +kernel
def PL6_35 : List Nat := []
theorem pl6_35 : rch 6 PL6_35 45360 46656 = true := by decide +kernel
def PL6 : List Nat := PL6_0 ++ (PL6_1 ++ (PL6_2 ++ (PL6_3 ++ (PL6_4 ++ (PL6_5 ++ (PL6_6 ++ (PL6_7 ++ (PL6_8 ++ (PL6_9 ++ (PL6_10 ++ (PL6_11 ++ (PL6_12 ++ (PL6_13 ++ (PL6_14 ++ (PL6_15 ++ (PL6_16 ++ (PL6_17 ++ (PL6_18 ++ (PL6_19 ++ (PL6_20 ++ (PL6_21 ++ (PL6_22 ++ (PL6_23 ++ (PL6_24 ++ (PL6_25 ++ (PL6_26 ++ (PL6_27 ++ (PL6_28 ++ (PL6_29 ++ (PL6_30 ++ (PL6_31 ++ (PL6_32 ++ (PL6_33 ++ (PL6_34 ++ (PL6_35)))))))))))))))))))))))))))))))))))
def PLx : Nat → List Nat
  | 1 => PL1
  | 2 => PL2
  | 3 => PL3
  | 4 => PL4
  | 5 => PL5
  | 6 => PL6
  | _ => []
theorem nx6 : nxA 6 PL6 = true := by decide +kernel
theorem pl6 (f : Nat → Nat) (b : Nat × Nat) : rfN 6 f 0 (6 ^ 6) b = PL6.foldl (besU f) b := by
  have h0 := fun b => rch_fold (f := f) pl6_0 (b := b) (by decide)
  have h1 := fun b => rch_fold (f := f) pl6_1 (b := b) (by decide)
  have h2 := fun b => rch_fold (f := f) pl6_2 (b := b) (by decide)
  have h3 := fun b => rch_fold (f := f) pl6_3 (b := b) (by decide)
  have h4 := fun b => rch_fold (f := f) pl6_4 (b := b) (by decide)
  have h5 := fun b => rch_fold (f := f) pl6_5 (b := b) (by decide)
  have h6 := fun b => rch_fold (f := f) pl6_6 (b := b) (by decide)
  have h7 := fun b => rch_fold (f := f) pl6_7 (b := b) (by decide)
  have h8 := fun b => rch_fold (f := f) pl6_8 (b := b) (by decide)
  have h9 := fun b => rch_fold (f := f) pl6_9 (b := b) (by decide)
  have h10 := fun b => rch_fold (f := f) pl6_10 (b := b) (by decide)
  have h11 := fun b => rch_fold (f := f) pl6_11 (b := b) (by decide)
  have h12 := fun b => rch_fold (f := f) pl6_12 (b := b) (by decide)
  have h13 := fun b => rch_fold (f := f) pl6_13 (b := b) (by decide)
  have h14 := fun b => rch_fold (f := f) pl6_14 (b := b) (by decide)
  have h15 := fun b => rch_fold (f := f) pl6_15 (b := b) (by decide)
  have h16 := fun b => rch_fold (f := f) pl6_16 (b := b) (by decide)
  have h17 := fun b => rch_fold (f := f) pl6_17 (b := b) (by decide)
  have h18 := fun b => rch_fold (f := f) pl6_18 (b := b) (by decide)
  have h19 := fun b => rch_fold (f := f) pl6_19 (b := b) (by decide)
  have h20 := fun b => rch_fold (f := f) pl6_20 (b := b) (by decide)
  have h21 := fun b => rch_fold (f := f) pl6_21 (b := b) (by decide)
  have h22 := fun b => rch_fold (f := f) pl6_22 (b := b) (by decide)
  have h23 := fun b => rch_fold (f := f) pl6_23 (b := b) (by decide)
  have h24 := fun b => rch_fold (f := f) pl6_24 (b := b) (by decide)
  have h25 := fun b => rch_fold (f := f) pl6_25 (b := b) (by decide)
  have h26 := fun b => rch_fold (f := f) pl6_26 (b := b) (by decide)
  have h27 := fun b => rch_fold (f := f) pl6_27 (b := b) (by decide)
  have h28 := fun b => rch_fold (f := f) pl6_28 (b := b) (by decide)
  have h29 := fun b => rch_fold (f := f) pl6_29 (b := b) (by decide)
  have h30 := fun b => rch_fold (f := f) pl6_30 (b := b) (by decide)
  have h31 := fun b => rch_fold (f := f) pl6_31 (b := b) (by decide)
  have h32 := fun b => rch_fold (f := f) pl6_32 (b := b) (by decide)
  have h33 := fun b => rch_fold (f := f) pl6_33 (b := b) (by decide)
  have h34 := fun b => rch_fold (f := f) pl6_34 (b := b) (by decide)
  have h35 := fun b => rch_fold (f := f) pl6_35 (b := b) (by decide)
  have a : ∀ k m, rfN 6 f 0 (k + m) b = rfN 6 f k m (rfN 6 f 0 k b) := fun k m => by rw [rfN_add, Nat.zero_add]
  unfold PL6
  rw [List.foldl_append, List.foldl_append, List.foldl_append, List.foldl_append, List.foldl_append, List.foldl_append, List.foldl_append, List.foldl_append, List.foldl_append, List.foldl_append, List.foldl_append, List.foldl_append, List.foldl_append, List.foldl_append, List.foldl_append, List.foldl_append, List.foldl_append, List.foldl_append, List.foldl_append, List.foldl_append, List.foldl_append, List.foldl_append, List.foldl_append, List.foldl_append, List.foldl_append, List.foldl_append, List.foldl_append, List.foldl_append, List.foldl_append, List.foldl_append, List.foldl_append, List.foldl_append, List.foldl_append, List.foldl_append, List.foldl_append]
  have e : ∀ i k, i = k → rfN 6 f 0 i b = rfN 6 f 0 k b := fun i k h => by rw [h]
  have s0 : rfN 6 f 0 1296 b = PL6_0.foldl (besU f) b := h0 b
  have s1 : rfN 6 f 0 2592 b = PL6_1.foldl (besU f) (rfN 6 f 0 1296 b) := (e 2592 (1296 + 1296) rfl).trans ((a 1296 1296).trans (h1 _))
  have s2 : rfN 6 f 0 3888 b = PL6_2.foldl (besU f) (rfN 6 f 0 2592 b) := (e 3888 (2592 + 1296) rfl).trans ((a 2592 1296).trans (h2 _))
  have s3 : rfN 6 f 0 5184 b = PL6_3.foldl (besU f) (rfN 6 f 0 3888 b) := (e 5184 (3888 + 1296) rfl).trans ((a 3888 1296).trans (h3 _))
  have s4 : rfN 6 f 0 6480 b = PL6_4.foldl (besU f) (rfN 6 f 0 5184 b) := (e 6480 (5184 + 1296) rfl).trans ((a 5184 1296).trans (h4 _))
  have s5 : rfN 6 f 0 7776 b = PL6_5.foldl (besU f) (rfN 6 f 0 6480 b) := (e 7776 (6480 + 1296) rfl).trans ((a 6480 1296).trans (h5 _))
  have s6 : rfN 6 f 0 9072 b = PL6_6.foldl (besU f) (rfN 6 f 0 7776 b) := (e 9072 (7776 + 1296) rfl).trans ((a 7776 1296).trans (h6 _))
  have s7 : rfN 6 f 0 10368 b = PL6_7.foldl (besU f) (rfN 6 f 0 9072 b) := (e 10368 (9072 + 1296) rfl).trans ((a 9072 1296).trans (h7 _))
  have s8 : rfN 6 f 0 11664 b = PL6_8.foldl (besU f) (rfN 6 f 0 10368 b) := (e 11664 (10368 + 1296) rfl).trans ((a 10368 1296).trans (h8 _))
  have s9 : rfN 6 f 0 12960 b = PL6_9.foldl (besU f) (rfN 6 f 0 11664 b) := (e 12960 (11664 + 1296) rfl).trans ((a 11664 1296).trans (h9 _))
  have s10 : rfN 6 f 0 14256 b = PL6_10.foldl (besU f) (rfN 6 f 0 12960 b) := (e 14256 (12960 + 1296) rfl).trans ((a 12960 1296).trans (h10 _))
  have s11 : rfN 6 f 0 15552 b = PL6_11.foldl (besU f) (rfN 6 f 0 14256 b) := (e 15552 (14256 + 1296) rfl).trans ((a 14256 1296).trans (h11 _))
  have s12 : rfN 6 f 0 16848 b = PL6_12.foldl (besU f) (rfN 6 f 0 15552 b) := (e 16848 (15552 + 1296) rfl).trans ((a 15552 1296).trans (h12 _))
  have s13 : rfN 6 f 0 18144 b = PL6_13.foldl (besU f) (rfN 6 f 0 16848 b) := (e 18144 (16848 + 1296) rfl).trans ((a 16848 1296).trans (h13 _))
  have s14 : rfN 6 f 0 19440 b = PL6_14.foldl (besU f) (rfN 6 f 0 18144 b) := (e 19440 (18144 + 1296) rfl).trans ((a 18144 1296).trans (h14 _))
  have s15 : rfN 6 f 0 20736 b = PL6_15.foldl (besU f) (rfN 6 f 0 19440 b) := (e 20736 (19440 + 1296) rfl).trans ((a 19440 1296).trans (h15 _))
  have s16 : rfN 6 f 0 22032 b = PL6_16.foldl (besU f) (rfN 6 f 0 20736 b) := (e 22032 (20736 + 1296) rfl).trans ((a 20736 1296).trans (h16 _))
  have s17 : rfN 6 f 0 23328 b = PL6_17.foldl (besU f) (rfN 6 f 0 22032 b) := (e 23328 (22032 + 1296) rfl).trans ((a 22032 1296).trans (h17 _))
  have s18 : rfN 6 f 0 24624 b = PL6_18.foldl (besU f) (rfN 6 f 0 23328 b) := (e 24624 (23328 + 1296) rfl).trans ((a 23328 1296).trans (h18 _))
  have s19 : rfN 6 f 0 25920 b = PL6_19.foldl (besU f) (rfN 6 f 0 24624 b) := (e 25920 (24624 + 1296) rfl).trans ((a 24624 1296).trans (h19 _))
  have s20 : rfN 6 f 0 27216 b = PL6_20.foldl (besU f) (rfN 6 f 0 25920 b) := (e 27216 (25920 + 1296) rfl).trans ((a 25920 1296).trans (h20 _))
  have s21 : rfN 6 f 0 28512 b = PL6_21.foldl (besU f) (rfN 6 f 0 27216 b) := (e 28512 (27216 + 1296) rfl).trans ((a 27216 1296).trans (h21 _))
  have s22 : rfN 6 f 0 29808 b = PL6_22.foldl (besU f) (rfN 6 f 0 28512 b) := (e 29808 (28512 + 1296) rfl).trans ((a 28512 1296).trans (h22 _))
  have s23 : rfN 6 f 0 31104 b = PL6_23.foldl (besU f) (rfN 6 f 0 29808 b) := (e 31104 (29808 + 1296) rfl).trans ((a 29808 1296).trans (h23 _))
  have s24 : rfN 6 f 0 32400 b = PL6_24.foldl (besU f) (rfN 6 f 0 31104 b) := (e 32400 (31104 + 1296) rfl).trans ((a 31104 1296).trans (h24 _))
  have s25 : rfN 6 f 0 33696 b = PL6_25.foldl (besU f) (rfN 6 f 0 32400 b) := (e 33696 (32400 + 1296) rfl).trans ((a 32400 1296).trans (h25 _))
  have s26 : rfN 6 f 0 34992 b = PL6_26.foldl (besU f) (rfN 6 f 0 33696 b) := (e 34992 (33696 + 1296) rfl).trans ((a 33696 1296).trans (h26 _))
  have s27 : rfN 6 f 0 36288 b = PL6_27.foldl (besU f) (rfN 6 f 0 34992 b) := (e 36288 (34992 + 1296) rfl).trans ((a 34992 1296).trans (h27 _))
  have s28 : rfN 6 f 0 37584 b = PL6_28.foldl (besU f) (rfN 6 f 0 36288 b) := (e 37584 (36288 + 1296) rfl).trans ((a 36288 1296).trans (h28 _))
  have s29 : rfN 6 f 0 38880 b = PL6_29.foldl (besU f) (rfN 6 f 0 37584 b) := (e 38880 (37584 + 1296) rfl).trans ((a 37584 1296).trans (h29 _))
  have s30 : rfN 6 f 0 40176 b = PL6_30.foldl (besU f) (rfN 6 f 0 38880 b) := (e 40176 (38880 + 1296) rfl).trans ((a 38880 1296).trans (h30 _))
  have s31 : rfN 6 f 0 41472 b = PL6_31.foldl (besU f) (rfN 6 f 0 40176 b) := (e 41472 (40176 + 1296) rfl).trans ((a 40176 1296).trans (h31 _))
  have s32 : rfN 6 f 0 42768 b = PL6_32.foldl (besU f) (rfN 6 f 0 41472 b) := (e 42768 (41472 + 1296) rfl).trans ((a 41472 1296).trans (h32 _))
  have s33 : rfN 6 f 0 44064 b = PL6_33.foldl (besU f) (rfN 6 f 0 42768 b) := (e 44064 (42768 + 1296) rfl).trans ((a 42768 1296).trans (h33 _))
  have s34 : rfN 6 f 0 45360 b = PL6_34.foldl (besU f) (rfN 6 f 0 44064 b) := (e 45360 (44064 + 1296) rfl).trans ((a 44064 1296).trans (h34 _))
  have s35 : rfN 6 f 0 46656 b = PL6_35.foldl (besU f) (rfN 6 f 0 45360 b) := (e 46656 (45360 + 1296) rfl).trans ((a 45360 1296).trans (h35 _))
  rw [show (6 : Nat) ^ 6 = 46656 from rfl, s35, s34, s33, s32, s31, s30, s29, s28, s27, s26, s25, s24, s23, s22, s21, s20, s19, s18, s17, s16, s15, s14, s13, s12, s11, s10, s9, s8, s7, s6, s5, s4, s3, s2, s1, s0]
