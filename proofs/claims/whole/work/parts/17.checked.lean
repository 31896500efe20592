/-! ===== every method of the table is what it must be ===== -/
def kpos : List (Int32 × Nat) := [(2, 197), (3, 51), (8, 35), (8, 66), (4, 160), (4, 172), (8, 14), (1, 57), (2, 201), (2, 207), (2, 204), (2, 194), (2, 215), (2, 219), (2, 211), (3, 120), (3, 116), (3, 124), (3, 219), (3, 223), (4, 30), (4, 76), (4, 73), (4, 104), (4, 112), (4, 125), (4, 168), (5, 189), (2, 43), (3, 132), (3, 145), (3, 142), (3, 136), (3, 128), (4, 179), (4, 164), (4, 157), (1, 182), (1, 233), (2, 223), (3, 204), (3, 200), (4, 22), (2, 102), (5, 23), (5, 40), (5, 35), (5, 45), (5, 49), (2, 13), (3, 215), (3, 210), (4, 42), (4, 38), (4, 34), (3, 158), (3, 162), (4, 56), (4, 50), (1, 217), (3, 154), (3, 150), (3, 227), (1, 107), (3, 15), (3, 29), (3, 25), (3, 20), (3, 11), (3, 7), (3, 3), (2, 239), (2, 235), (5, 111), (1, 39), (2, 178), (2, 186), (2, 227), (1, 151), (2, 67), (4, 197), (4, 203), (4, 220), (4, 215), (4, 211), (4, 224), (5, 3), (4, 239), (4, 234), (1, 31), (2, 174), (2, 182), (2, 190), (2, 231), (3, 112), (3, 170), (3, 175), (3, 179), (3, 166), (3, 183), (3, 191), (3, 188), (3, 196), (4, 0), (4, 5), (3, 236), (3, 232), (4, 13), (4, 9), (4, 18), (4, 26), (4, 60), (4, 68), (4, 80), (4, 64), (4, 86), (4, 96), (4, 91), (4, 100), (4, 108), (4, 117), (4, 121), (4, 131), (4, 135), (4, 143), (4, 139), (4, 149), (4, 153), (4, 184), (4, 189), (4, 193), (4, 207), (4, 230), (5, 12), (5, 15), (5, 8), (5, 19), (5, 27), (5, 31), (5, 53), (5, 63), (5, 57), (5, 73), (5, 77), (5, 81), (5, 84), (5, 69), (5, 88), (5, 93), (5, 99), (5, 103), (5, 107), (5, 210), (6, 163), (6, 167), (6, 174), (6, 171), (6, 182), (6, 186), (6, 190), (6, 202), (6, 198), (6, 210), (6, 206), (6, 194), (6, 178), (6, 234), (6, 230), (6, 226), (6, 222), (6, 218), (6, 214), (7, 2), (7, 6), (7, 10), (6, 238), (7, 14), (7, 22), (7, 29), (7, 26), (7, 34), (7, 38), (7, 18), (7, 44), (7, 48), (7, 52), (7, 63), (7, 60), (7, 71), (7, 79), (7, 75), (7, 67), (7, 56), (7, 95), (7, 91), (7, 87), (7, 103), (7, 99), (7, 83), (7, 107), (7, 111), (7, 123), (7, 119), (7, 128), (7, 115), (7, 132), (7, 140), (7, 136), (7, 148), (7, 144), (7, 155), (7, 159), (7, 152), (7, 167), (7, 163), (7, 175), (7, 171), (7, 179), (7, 187), (7, 191), (7, 183), (7, 195), (7, 199), (7, 203), (7, 207), (7, 215), (7, 211), (7, 219), (7, 223), (7, 227), (7, 235), (7, 231), (8, 7), (8, 3), (7, 239), (8, 11), (8, 19), (8, 23), (8, 31), (8, 27), (8, 39), (8, 43), (8, 51), (8, 59), (8, 55), (8, 47), (8, 63), (8, 70), (8, 75), (8, 79), (8, 83), (8, 87)]
set_option maxRecDepth 100000 in
theorem kd_all : ∀ k, k < 252 → ai_wat (kpos.getD k (0, 0)) = some (Cond.code (ai_km k).1 (ai_km k).2.1 (ai_km k).2.2.1 (ai_km k).2.2.2.1) ∧ goodWord (Cond.code (ai_km k).1 (ai_km k).2.1 (ai_km k).2.2.1 (ai_km k).2.2.2.1) = true ∧ plainName (ai_km k).1.cls = true ∧ ((ai_km k).1.cls ≠ "java/lang/invoke/MethodHandle" ∧ (ai_km k).1.cls ≠ "java/lang/invoke/VarHandle" ∧ (parseMethodDescriptor (ai_km k).1.desc).map (fun d => d.parameters.length) = some (ai_km k).2.2.2.2.1) ∧ (ai_km k).2.2.1 ≤ 60 := by decide +kernel
set_option maxRecDepth 100000 in
theorem ko_0 : ∀ k, k < 40 → ai_okm (0 + k) = true := by decide +kernel
set_option maxRecDepth 100000 in
theorem ko_40 : ∀ k, k < 40 → ai_okm (40 + k) = true := by decide +kernel
set_option maxRecDepth 100000 in
theorem ko_80 : ∀ k, k < 40 → ai_okm (80 + k) = true := by decide +kernel
set_option maxRecDepth 100000 in
theorem ko_120 : ∀ k, k < 40 → ai_okm (120 + k) = true := by decide +kernel
set_option maxRecDepth 100000 in
theorem ko_160 : ∀ k, k < 40 → ai_okm (160 + k) = true := by decide +kernel
set_option maxRecDepth 100000 in
theorem ko_200 : ∀ k, k < 52 → ai_okm (200 + k) = true := by decide +kernel
theorem ai_mok_all : ∀ k, k < 252 → ai_mok k := by
  intro k hk
  obtain ⟨h1, h2, h3, h4, h5⟩ := kd_all k hk
  refine ⟨?_, GW_of (ai_wat_in h1) h2, h3, h4, h5⟩
  rcases Nat.lt_or_ge k 40 with h | h
  · have := ko_0 (k - 0) (by omega)
    rwa [show 0 + (k - 0) = k by omega] at this
  rcases Nat.lt_or_ge k 80 with h | h
  · have := ko_40 (k - 40) (by omega)
    rwa [show 40 + (k - 40) = k by omega] at this
  rcases Nat.lt_or_ge k 120 with h | h
  · have := ko_80 (k - 80) (by omega)
    rwa [show 80 + (k - 80) = k by omega] at this
  rcases Nat.lt_or_ge k 160 with h | h
  · have := ko_120 (k - 120) (by omega)
    rwa [show 120 + (k - 120) = k by omega] at this
  rcases Nat.lt_or_ge k 200 with h | h
  · have := ko_160 (k - 160) (by omega)
    rwa [show 160 + (k - 160) = k by omega] at this
  have := ko_200 (k - 200) (by omega)
  rwa [show 200 + (k - 200) = k by omega] at this
