/-! THE LAW'S CASES: timeLoss, runAt, rankOf, bestOn, meanScore, passRate, isConsistent, writeRun, writeRanking (printed by wip/whole/law1.py) -/
def tc_timeLoss : aT := [(2063, .aload_n 1, 2064, 0, 0, 0, []), (2064, .aload_n 0, 2065, 0, 0, 0, []), (2065, .iload 5, 2067, 0, 0, 0, []), (2067, .iconst 1, 2068, 0, 0, 0, []), (2068, .iadd, 2069, 0, 0, 0, []), (2069, .iaload, 2070, 0, 0, 0, []), (2070, .aload_n 3, 2071, 0, 0, 0, []), (2071, .invokestatic 285, 2074, 3, 1, 267, []), (2074, .istore 6, 2076, 0, 0, 0, []), (2076, .aload_n 2, 2077, 0, 0, 0, []), (2077, .aload_n 0, 2078, 0, 0, 0, []), (2078, .iload 5, 2080, 0, 0, 0, []), (2080, .iconst 1, 2081, 0, 0, 0, []), (2081, .iadd, 2082, 0, 0, 0, []), (2082, .iaload, 2083, 0, 0, 0, []), (2083, .invokevirtual 287, 2086, 2, 0, 208, []), (2086, .istore 7, 2088, 0, 0, 0, []), (2088, .aload_n 2, 2089, 0, 0, 0, []), (2089, .invokevirtual 168, 2092, 1, 0, 133, []), (2092, .iload 6, 2094, 0, 0, 0, []), (2094, .if_icmp .eq 5, 2097, 2099, 0, 0, []), (2097, .iconst 0, 2098, 0, 0, 0, []), (2098, .ireturn, 2099, 0, 0, 0, []), (2099, .iload 6, 2101, 0, 0, 0, []), (2101, .ifCond .ne 15, 2104, 2116, 0, 0, []), (2104, .aload_n 3, 2105, 0, 0, 0, []), (2105, .iconst 0, 2106, 0, 0, 0, []), (2106, .laload, 2107, 0, 0, 0, []), (2107, .iload 7, 2109, 0, 0, 0, []), (2109, .i2l, 2110, 0, 0, 0, []), (2110, .lcmp, 2111, 0, 0, 0, []), (2111, .ifCond .eq 5, 2114, 2116, 0, 0, []), (2114, .iconst 0, 2115, 0, 0, 0, []), (2115, .ireturn, 2116, 0, 0, 0, []), (2116, .goto 743, 2119, 2859, 0, 0, [])]
set_option maxRecDepth 100000 in
theorem kc_timeLoss : tc_timeLoss.all (fun q => aOk 281 8 (aMt 281).2.1 q.1 q.2) = true := by decide +kernel
def tc_runAt : aT := [(2119, .aload_n 1, 2120, 0, 0, 0, []), (2120, .aload_n 0, 2121, 0, 0, 0, []), (2121, .iload 5, 2123, 0, 0, 0, []), (2123, .iconst 1, 2124, 0, 0, 0, []), (2124, .iadd, 2125, 0, 0, 0, []), (2125, .iaload, 2126, 0, 0, 0, []), (2126, .aload_n 3, 2127, 0, 0, 0, []), (2127, .invokestatic 288, 2130, 3, 1, 268, []), (2130, .istore 6, 2132, 0, 0, 0, []), (2132, .aload_n 2, 2133, 0, 0, 0, []), (2133, .aload_n 0, 2134, 0, 0, 0, []), (2134, .iload 5, 2136, 0, 0, 0, []), (2136, .iconst 1, 2137, 0, 0, 0, []), (2137, .iadd, 2138, 0, 0, 0, []), (2138, .iaload, 2139, 0, 0, 0, []), (2139, .invokevirtual 290, 2142, 2, 0, 212, []), (2142, .istore 7, 2144, 0, 0, 0, []), (2144, .aload_n 2, 2145, 0, 0, 0, []), (2145, .invokevirtual 168, 2148, 1, 0, 133, []), (2148, .iload 6, 2150, 0, 0, 0, []), (2150, .if_icmp .eq 5, 2153, 2155, 0, 0, []), (2153, .iconst 0, 2154, 0, 0, 0, []), (2154, .ireturn, 2155, 0, 0, 0, []), (2155, .iload 6, 2157, 0, 0, 0, []), (2157, .ifCond .ne 15, 2160, 2172, 0, 0, []), (2160, .aload_n 3, 2161, 0, 0, 0, []), (2161, .iconst 0, 2162, 0, 0, 0, []), (2162, .laload, 2163, 0, 0, 0, []), (2163, .iload 7, 2165, 0, 0, 0, []), (2165, .i2l, 2166, 0, 0, 0, []), (2166, .lcmp, 2167, 0, 0, 0, []), (2167, .ifCond .eq 5, 2170, 2172, 0, 0, []), (2170, .iconst 0, 2171, 0, 0, 0, []), (2171, .ireturn, 2172, 0, 0, 0, []), (2172, .goto 687, 2175, 2859, 0, 0, [])]
set_option maxRecDepth 100000 in
theorem kc_runAt : tc_runAt.all (fun q => aOk 281 8 (aMt 281).2.1 q.1 q.2) = true := by decide +kernel
def tc_rankOf : aT := [(2175, .aload_n 1, 2176, 0, 0, 0, []), (2176, .aload_n 0, 2177, 0, 0, 0, []), (2177, .iload 5, 2179, 0, 0, 0, []), (2179, .iconst 1, 2180, 0, 0, 0, []), (2180, .iadd, 2181, 0, 0, 0, []), (2181, .iaload, 2182, 0, 0, 0, []), (2182, .aload_n 3, 2183, 0, 0, 0, []), (2183, .invokestatic 291, 2186, 3, 1, 269, []), (2186, .istore 6, 2188, 0, 0, 0, []), (2188, .aload_n 2, 2189, 0, 0, 0, []), (2189, .aload_n 0, 2190, 0, 0, 0, []), (2190, .iload 5, 2192, 0, 0, 0, []), (2192, .iconst 1, 2193, 0, 0, 0, []), (2193, .iadd, 2194, 0, 0, 0, []), (2194, .iaload, 2195, 0, 0, 0, []), (2195, .invokevirtual 293, 2198, 2, 0, 213, []), (2198, .istore 7, 2200, 0, 0, 0, []), (2200, .aload_n 2, 2201, 0, 0, 0, []), (2201, .invokevirtual 168, 2204, 1, 0, 133, []), (2204, .iload 6, 2206, 0, 0, 0, []), (2206, .if_icmp .eq 5, 2209, 2211, 0, 0, []), (2209, .iconst 0, 2210, 0, 0, 0, []), (2210, .ireturn, 2211, 0, 0, 0, []), (2211, .iload 6, 2213, 0, 0, 0, []), (2213, .ifCond .ne 15, 2216, 2228, 0, 0, []), (2216, .aload_n 3, 2217, 0, 0, 0, []), (2217, .iconst 0, 2218, 0, 0, 0, []), (2218, .laload, 2219, 0, 0, 0, []), (2219, .iload 7, 2221, 0, 0, 0, []), (2221, .i2l, 2222, 0, 0, 0, []), (2222, .lcmp, 2223, 0, 0, 0, []), (2223, .ifCond .eq 5, 2226, 2228, 0, 0, []), (2226, .iconst 0, 2227, 0, 0, 0, []), (2227, .ireturn, 2228, 0, 0, 0, []), (2228, .goto 631, 2231, 2859, 0, 0, [])]
set_option maxRecDepth 100000 in
theorem kc_rankOf : tc_rankOf.all (fun q => aOk 281 8 (aMt 281).2.1 q.1 q.2) = true := by decide +kernel
def tc_bestOn : aT := [(2231, .aload_n 1, 2232, 0, 0, 0, []), (2232, .aload_n 0, 2233, 0, 0, 0, []), (2233, .iload 5, 2235, 0, 0, 0, []), (2235, .iconst 1, 2236, 0, 0, 0, []), (2236, .iadd, 2237, 0, 0, 0, []), (2237, .iaload, 2238, 0, 0, 0, []), (2238, .aload_n 3, 2239, 0, 0, 0, []), (2239, .invokestatic 294, 2242, 3, 1, 270, []), (2242, .istore 6, 2244, 0, 0, 0, []), (2244, .aload_n 2, 2245, 0, 0, 0, []), (2245, .aload_n 0, 2246, 0, 0, 0, []), (2246, .iload 5, 2248, 0, 0, 0, []), (2248, .iconst 1, 2249, 0, 0, 0, []), (2249, .iadd, 2250, 0, 0, 0, []), (2250, .iaload, 2251, 0, 0, 0, []), (2251, .invokevirtual 296, 2254, 2, 0, 214, []), (2254, .istore 7, 2256, 0, 0, 0, []), (2256, .aload_n 2, 2257, 0, 0, 0, []), (2257, .invokevirtual 168, 2260, 1, 0, 133, []), (2260, .iload 6, 2262, 0, 0, 0, []), (2262, .if_icmp .eq 5, 2265, 2267, 0, 0, []), (2265, .iconst 0, 2266, 0, 0, 0, []), (2266, .ireturn, 2267, 0, 0, 0, []), (2267, .iload 6, 2269, 0, 0, 0, []), (2269, .ifCond .ne 15, 2272, 2284, 0, 0, []), (2272, .aload_n 3, 2273, 0, 0, 0, []), (2273, .iconst 0, 2274, 0, 0, 0, []), (2274, .laload, 2275, 0, 0, 0, []), (2275, .iload 7, 2277, 0, 0, 0, []), (2277, .i2l, 2278, 0, 0, 0, []), (2278, .lcmp, 2279, 0, 0, 0, []), (2279, .ifCond .eq 5, 2282, 2284, 0, 0, []), (2282, .iconst 0, 2283, 0, 0, 0, []), (2283, .ireturn, 2284, 0, 0, 0, []), (2284, .goto 575, 2287, 2859, 0, 0, [])]
set_option maxRecDepth 100000 in
theorem kc_bestOn : tc_bestOn.all (fun q => aOk 281 8 (aMt 281).2.1 q.1 q.2) = true := by decide +kernel
def tc_meanScore : aT := [(2287, .aload_n 1, 2288, 0, 0, 0, []), (2288, .aload 4, 2290, 0, 0, 0, []), (2290, .invokestatic 297, 2293, 2, 1, 271, []), (2293, .istore 6, 2295, 0, 0, 0, []), (2295, .aload_n 2, 2296, 0, 0, 0, []), (2296, .invokevirtual 300, 2299, 1, 0, 215, []), (2299, .dstore 7, 2301, 0, 0, 0, []), (2301, .aload_n 2, 2302, 0, 0, 0, []), (2302, .invokevirtual 168, 2305, 1, 0, 133, []), (2305, .iload 6, 2307, 0, 0, 0, []), (2307, .if_icmp .eq 5, 2310, 2312, 0, 0, []), (2310, .iconst 0, 2311, 0, 0, 0, []), (2311, .ireturn, 2312, 0, 0, 0, []), (2312, .iload 6, 2314, 0, 0, 0, []), (2314, .ifCond .ne 35, 2317, 2349, 0, 0, []), (2317, .aload 4, 2319, 0, 0, 0, []), (2319, .iconst 0, 2320, 0, 0, 0, []), (2320, .daload, 2321, 0, 0, 0, []), (2321, .dload 7, 2323, 0, 0, 0, []), (2323, .dcmp .l, 2324, 0, 0, 0, []), (2324, .ifCond .eq 25, 2327, 2349, 0, 0, []), (2327, .aload 4, 2329, 0, 0, 0, []), (2329, .iconst 0, 2330, 0, 0, 0, []), (2330, .daload, 2331, 0, 0, 0, []), (2331, .aload 4, 2333, 0, 0, 0, []), (2333, .iconst 0, 2334, 0, 0, 0, []), (2334, .daload, 2335, 0, 0, 0, []), (2335, .dcmp .l, 2336, 0, 0, 0, []), (2336, .ifCond .eq 11, 2339, 2347, 0, 0, []), (2339, .dload 7, 2341, 0, 0, 0, []), (2341, .dload 7, 2343, 0, 0, 0, []), (2343, .dcmp .l, 2344, 0, 0, 0, []), (2344, .ifCond .ne 5, 2347, 2349, 0, 0, []), (2347, .iconst 0, 2348, 0, 0, 0, []), (2348, .ireturn, 2349, 0, 0, 0, []), (2349, .goto 510, 2352, 2859, 0, 0, [])]
set_option maxRecDepth 100000 in
theorem kc_meanScore : tc_meanScore.all (fun q => aOk 281 8 (aMt 281).2.1 q.1 q.2) = true := by decide +kernel
def tc_passRate : aT := [(2352, .aload_n 1, 2353, 0, 0, 0, []), (2353, .aload_n 0, 2354, 0, 0, 0, []), (2354, .iload 5, 2356, 0, 0, 0, []), (2356, .iconst 1, 2357, 0, 0, 0, []), (2357, .iadd, 2358, 0, 0, 0, []), (2358, .iaload, 2359, 0, 0, 0, []), (2359, .aload 4, 2361, 0, 0, 0, []), (2361, .invokestatic 301, 2364, 3, 1, 272, []), (2364, .istore 6, 2366, 0, 0, 0, []), (2366, .aload_n 2, 2367, 0, 0, 0, []), (2367, .aload_n 0, 2368, 0, 0, 0, []), (2368, .iload 5, 2370, 0, 0, 0, []), (2370, .iconst 1, 2371, 0, 0, 0, []), (2371, .iadd, 2372, 0, 0, 0, []), (2372, .iaload, 2373, 0, 0, 0, []), (2373, .invokevirtual 304, 2376, 2, 0, 216, []), (2376, .fstore 7, 2378, 0, 0, 0, []), (2378, .aload_n 2, 2379, 0, 0, 0, []), (2379, .invokevirtual 168, 2382, 1, 0, 133, []), (2382, .iload 6, 2384, 0, 0, 0, []), (2384, .if_icmp .eq 5, 2387, 2389, 0, 0, []), (2387, .iconst 0, 2388, 0, 0, 0, []), (2388, .ireturn, 2389, 0, 0, 0, []), (2389, .iload 6, 2391, 0, 0, 0, []), (2391, .ifCond .ne 36, 2394, 2427, 0, 0, []), (2394, .aload 4, 2396, 0, 0, 0, []), (2396, .iconst 0, 2397, 0, 0, 0, []), (2397, .daload, 2398, 0, 0, 0, []), (2398, .fload 7, 2400, 0, 0, 0, []), (2400, .f2d, 2401, 0, 0, 0, []), (2401, .dcmp .l, 2402, 0, 0, 0, []), (2402, .ifCond .eq 25, 2405, 2427, 0, 0, []), (2405, .aload 4, 2407, 0, 0, 0, []), (2407, .iconst 0, 2408, 0, 0, 0, []), (2408, .daload, 2409, 0, 0, 0, []), (2409, .aload 4, 2411, 0, 0, 0, []), (2411, .iconst 0, 2412, 0, 0, 0, []), (2412, .daload, 2413, 0, 0, 0, []), (2413, .dcmp .l, 2414, 0, 0, 0, []), (2414, .ifCond .eq 11, 2417, 2425, 0, 0, []), (2417, .fload 7, 2419, 0, 0, 0, []), (2419, .fload 7, 2421, 0, 0, 0, []), (2421, .fcmp .l, 2422, 0, 0, 0, []), (2422, .ifCond .ne 5, 2425, 2427, 0, 0, []), (2425, .iconst 0, 2426, 0, 0, 0, []), (2426, .ireturn, 2427, 0, 0, 0, []), (2427, .goto 432, 2430, 2859, 0, 0, [])]
set_option maxRecDepth 100000 in
theorem kc_passRate : tc_passRate.all (fun q => aOk 281 8 (aMt 281).2.1 q.1 q.2) = true := by decide +kernel
def tc_isConsistent : aT := [(2430, .aload_n 1, 2431, 0, 0, 0, []), (2431, .invokevirtual 305, 2434, 1, 0, 110, []), (2434, .aload_n 2, 2435, 0, 0, 0, []), (2435, .invokevirtual 308, 2438, 1, 0, 217, []), (2438, .if_icmp .eq 421, 2441, 2859, 0, 0, []), (2441, .iconst 0, 2442, 0, 0, 0, []), (2442, .ireturn, 2443, 0, 0, 0, [])]
set_option maxRecDepth 100000 in
theorem kc_isConsistent : tc_isConsistent.all (fun q => aOk 281 8 (aMt 281).2.1 q.1 q.2) = true := by decide +kernel
def tc_writeRun : aT := [(2443, .aload_n 1, 2444, 0, 0, 0, []), (2444, .aload_n 0, 2445, 0, 0, 0, []), (2445, .iload 5, 2447, 0, 0, 0, []), (2447, .iconst 1, 2448, 0, 0, 0, []), (2448, .iadd, 2449, 0, 0, 0, []), (2449, .iaload, 2450, 0, 0, 0, []), (2450, .aload_n 3, 2451, 0, 0, 0, []), (2451, .invokestatic 309, 2454, 3, 1, 273, []), (2454, .istore 6, 2456, 0, 0, 0, []), (2456, .aload_n 2, 2457, 0, 0, 0, []), (2457, .aload_n 0, 2458, 0, 0, 0, []), (2458, .iload 5, 2460, 0, 0, 0, []), (2460, .iconst 1, 2461, 0, 0, 0, []), (2461, .iadd, 2462, 0, 0, 0, []), (2462, .iaload, 2463, 0, 0, 0, []), (2463, .invokevirtual 311, 2466, 2, 0, 220, []), (2466, .istore 7, 2468, 0, 0, 0, []), (2468, .aload_n 2, 2469, 0, 0, 0, []), (2469, .invokevirtual 168, 2472, 1, 0, 133, []), (2472, .iload 6, 2474, 0, 0, 0, []), (2474, .if_icmp .eq 5, 2477, 2479, 0, 0, []), (2477, .iconst 0, 2478, 0, 0, 0, []), (2478, .ireturn, 2479, 0, 0, 0, []), (2479, .iload 6, 2481, 0, 0, 0, []), (2481, .ifCond .ne 15, 2484, 2496, 0, 0, []), (2484, .aload_n 3, 2485, 0, 0, 0, []), (2485, .iconst 0, 2486, 0, 0, 0, []), (2486, .laload, 2487, 0, 0, 0, []), (2487, .iload 7, 2489, 0, 0, 0, []), (2489, .i2l, 2490, 0, 0, 0, []), (2490, .lcmp, 2491, 0, 0, 0, []), (2491, .ifCond .eq 5, 2494, 2496, 0, 0, []), (2494, .iconst 0, 2495, 0, 0, 0, []), (2495, .ireturn, 2496, 0, 0, 0, []), (2496, .goto 363, 2499, 2859, 0, 0, [])]
set_option maxRecDepth 100000 in
theorem kc_writeRun : tc_writeRun.all (fun q => aOk 281 8 (aMt 281).2.1 q.1 q.2) = true := by decide +kernel
def tc_writeRanking : aT := [(2499, .aload_n 1, 2500, 0, 0, 0, []), (2500, .invokevirtual 312, 2503, 1, 0, 112, []), (2503, .aload_n 2, 2504, 0, 0, 0, []), (2504, .invokevirtual 315, 2507, 1, 0, 221, []), (2507, .if_icmp .eq 352, 2510, 2859, 0, 0, []), (2510, .iconst 0, 2511, 0, 0, 0, []), (2511, .ireturn, 2512, 0, 0, 0, [])]
set_option maxRecDepth 100000 in
theorem kc_writeRanking : tc_writeRanking.all (fun q => aOk 281 8 (aMt 281).2.1 q.1 q.2) = true := by decide +kernel
section LC
variable {l : Launch} {g : aG} {Q : Option aV → aSt → aM → Prop} {X : Nat → aSt → aM → Prop} {B : aK → aM → Nat → List (Option aV) → List aV → Prop} {S : Int → Int} {z : aM} {A : aAb} {i : Int} {c1 c2 : Nat}
theorem wL_timeLoss (hB : lBt l g Q X B) (h : lIn g S z A i c1 c2) (hN : lNx S B i c1 c2) : B (none, c1, c2) z 2063 [some (.inr (.inr (.inl (31, 0, 0)))), some (.inr (.inr (.inl (0, 0, 0)))), some (.inr (.inr (.inl (16, 0, 0)))), some (.inr (.inr (.inl (18, 0, 0)))), some (.inr (.inr (.inl (19, 0, 0)))), some (.inl i), none, none, none] [] := by
  obtain ⟨hs, hS, ⟨i0, i1⟩, k1, k2⟩ := h
  obtain ⟨⟨hC, hM⟩, ⟨hI, hL⟩, hz⟩ := id hs
  obtain ⟨x1, e1⟩ : ∃ x, x = z (31, 0, 0) (i + 1) := ⟨_, rfl⟩
  have h1 : aIR x1 := by rw [e1, hz]; exact hS _
  have lv := lV_timeLoss (r := x1) hI
  have ct : lOp l g nL_timeLoss 19 [.inr (.inr (.inl (0, 0, 0))), .inl (z (31, 0, 0) (i + 1)), .inr (.inr (.inl (18, 0, 0)))] z (lQ z (qR (isN (wM A) x1) (wM A (59 + 13 * x1 + 5)) A)) := by
    rw [← e1]
    exact lT_timeLoss (by decide) (cT_timeLoss h1 (by decide) hC hI) lv.1 lv.2
  have hIL : InvW (qR (isN (wM A) x1) (wM A (59 + 13 * x1 + 5)) A).2.2 ∧ InvL (qR (isN (wM A) x1) (wM A (59 + 13 * x1 + 5)) A).2.2 := lI_A qR_A hI hL
  have cm0 : ∀ z1, RelM z1 A → mOp l g nX7_timeLoss 19 [.inr (.inr (.inl (16, 0, 0))), .inl x1] z1 (qR (isN (wM A) x1) (wM A (59 + 13 * x1 + 5)) A) := fun z1 md => cM_timeLoss h1 (by decide) md hI
  obtain ⟨R, eR⟩ : ∃ R : aRes, R = (qR (isN (wM A) x1) (wM A (59 + 13 * x1 + 5)) A) := ⟨_, rfl⟩
  rw [← eR] at lv ct hIL
  simp only [← eR] at cm0
  clear eR
  have lt0 : 0 ≤ R.1 ∧ R.1 ≤ 3 := by have := lv.1; omega
  have l3 : ∀ (z2 : aM) (t : Int) (v : Int) (A2 : aAb), lS S z2 A2 → (0 ≤ t ∧ t ≤ 3) → z2 (16, 0, 0) 9 = t → (t = 0 → z2 (18, 0, 0) 0 = v) → (t = 0 → aIR v) → B (none, c1 + 1, c2 + 6) z2 2086 [some (.inr (.inr (.inl (31, 0, 0)))), some (.inr (.inr (.inl (0, 0, 0)))), some (.inr (.inr (.inl (16, 0, 0)))), some (.inr (.inr (.inl (18, 0, 0)))), some (.inr (.inr (.inl (19, 0, 0)))), some (.inl i), some (.inl t), none, none] [.inl v] := by
    intro z2 t v A2 hs2 ht e9 e18 hv
    have fin := hN z2 A2 (some (.inl t)) (some (.inl v)) none (c1 + 1) (c2 + 6) hs2 (Nat.le_refl _) (Nat.le_refl _)
    have th := cM_thrown (l := l) (g := g) (d := 19) (z := z2)
    by_cases t0 : t = 0
    · have f18 := e18 t0
      have fv := hv t0
      have ec : aCmp (z2 (18, 0, 0) 0) v = 0 := by rw [f18]; exact aCmp_rf v
      unfold aIR at fv
      refine hB tc_timeLoss kc_timeLoss [2859] 1000 _ _ _ _ _ ?_
      repeat' (first | exact fin | refine And.intro ?_ ?_ | (intro hh; first | exact absurd hh (by decide) | exact absurd rfl hh | (exfalso; omega) | skip) | refine Or.inl (uE th ?_) | fail)
      all_goals first | omega | (exact rfl) | (show (1 : Nat) ≤ 20; decide)
    · refine hB tc_timeLoss kc_timeLoss [2859] 1000 _ _ _ _ _ ?_
      repeat' (first | exact fin | refine And.intro ?_ ?_ | (intro hh; first | exact absurd hh (by decide) | exact absurd rfl hh | (exfalso; omega) | skip) | refine Or.inl (uE th ?_) | fail)
      all_goals first | omega | (exact rfl) | (show (1 : Nat) ≤ 20; decide)
  have l2 : ∀ r z1, lQ z R r z1 → aPu r [] (fun st => B (none, c1 + 1, c2 + 6) z1 2074 [some (.inr (.inr (.inl (31, 0, 0)))), some (.inr (.inr (.inl (0, 0, 0)))), some (.inr (.inr (.inl (16, 0, 0)))), some (.inr (.inr (.inl (18, 0, 0)))), some (.inr (.inr (.inl (19, 0, 0)))), some (.inl i), none, none, none] st) := by
    intro r z1 hz1
    obtain ⟨rfl, q1, q2, q3⟩ := hz1
    have md := hs.mid q3
    have a1 : z1 (31, 0, 0) (i + 1) = x1 := by rw [md.2]; exact e1.symm
    have cm : mOp l g nX7_timeLoss 19 [.inr (.inr (.inl (16, 0, 0))), .inl (z1 (31, 0, 0) (i + 1))] z1 R := by
      rw [a1]
      exact cm0 z1 md.1
    have l4 : ∀ r z2, (r = some (.inl R.2.1) ∧ (RelM z2 R.2.2 ∧ z2 (16, 0, 0) 9 = R.1) ∧ fM z1 z2) → aPu r [] (fun st => B (none, c1 + 1, c2 + 6) z2 2086 [some (.inr (.inr (.inl (31, 0, 0)))), some (.inr (.inr (.inl (0, 0, 0)))), some (.inr (.inr (.inl (16, 0, 0)))), some (.inr (.inr (.inl (18, 0, 0)))), some (.inr (.inr (.inl (19, 0, 0)))), some (.inl i), some (.inl R.1), none, none] st) := by
      intro r z2 hz2
      obtain ⟨rfl, ⟨p1, p2⟩, p3⟩ := hz2
      exact l3 z2 R.1 R.2.1 R.2.2 (hs.fin q3 q2 p1 p3 hIL.1 hIL.2) lt0 p2 (fun w => by rw [p3 (18, 0, 0) ⟨by decide, by decide⟩]; exact q1 w) lv.2
    refine hB tc_timeLoss kc_timeLoss [2086] 1000 _ _ _ _ _ ?_
    repeat' (first | exact Or.inl (uA cm l4) | refine And.intro ?_ ?_ | (intro hh; first | exact absurd hh (by decide) | exact absurd rfl hh | (exfalso; omega) | skip) | fail)
    all_goals first | omega | (exact rfl) | (show (1 : Nat) ≤ 20; decide)
  refine hB tc_timeLoss kc_timeLoss [2074] 1000 _ _ _ _ _ ?_
  repeat' (first | exact Or.inr (Or.inr ⟨1, 6, ⟨k1, k2⟩, uL ct l2⟩) | refine And.intro ?_ ?_ | (intro hh; first | exact absurd hh (by decide) | exact absurd rfl hh | (exfalso; omega) | skip) | fail)
  all_goals first | omega | (exact rfl) | (show (1 : Nat) ≤ 20; decide)
theorem wL_runAt (hB : lBt l g Q X B) (h : lIn g S z A i c1 c2) (hN : lNx S B i c1 c2) : B (none, c1, c2) z 2119 [some (.inr (.inr (.inl (31, 0, 0)))), some (.inr (.inr (.inl (0, 0, 0)))), some (.inr (.inr (.inl (16, 0, 0)))), some (.inr (.inr (.inl (18, 0, 0)))), some (.inr (.inr (.inl (19, 0, 0)))), some (.inl i), none, none, none] [] := by
  obtain ⟨hs, hS, ⟨i0, i1⟩, k1, k2⟩ := h
  obtain ⟨⟨hC, hM⟩, ⟨hI, hL⟩, hz⟩ := id hs
  obtain ⟨x1, e1⟩ : ∃ x, x = z (31, 0, 0) (i + 1) := ⟨_, rfl⟩
  have h1 : aIR x1 := by rw [e1, hz]; exact hS _
  have lv := lV_runAt (k := x1) hI
  have ct : lOp l g nL_runAt 19 [.inr (.inr (.inl (0, 0, 0))), .inl (z (31, 0, 0) (i + 1)), .inr (.inr (.inl (18, 0, 0)))] z (lQ z (qRunAt x1 A)) := by
    rw [← e1]
    exact lT_runAt (by decide) (cT_runAt h1 (by decide) hC hI) lv.1 lv.2
  have hIL : InvW (qRunAt x1 A).2.2 ∧ InvL (qRunAt x1 A).2.2 := lI_A qRunAt_A hI hL
  have cm0 : ∀ z1, RelM z1 A → mOp l g nX7_runAt 19 [.inr (.inr (.inl (16, 0, 0))), .inl x1] z1 (qRunAt x1 A) := fun z1 md => cM_runAt h1 (by decide) md hI
  obtain ⟨R, eR⟩ : ∃ R : aRes, R = (qRunAt x1 A) := ⟨_, rfl⟩
  rw [← eR] at lv ct hIL
  simp only [← eR] at cm0
  clear eR
  have lt0 : 0 ≤ R.1 ∧ R.1 ≤ 3 := by have := lv.1; omega
  have l3 : ∀ (z2 : aM) (t : Int) (v : Int) (A2 : aAb), lS S z2 A2 → (0 ≤ t ∧ t ≤ 3) → z2 (16, 0, 0) 9 = t → (t = 0 → z2 (18, 0, 0) 0 = v) → (t = 0 → aIR v) → B (none, c1 + 1, c2 + 6) z2 2142 [some (.inr (.inr (.inl (31, 0, 0)))), some (.inr (.inr (.inl (0, 0, 0)))), some (.inr (.inr (.inl (16, 0, 0)))), some (.inr (.inr (.inl (18, 0, 0)))), some (.inr (.inr (.inl (19, 0, 0)))), some (.inl i), some (.inl t), none, none] [.inl v] := by
    intro z2 t v A2 hs2 ht e9 e18 hv
    have fin := hN z2 A2 (some (.inl t)) (some (.inl v)) none (c1 + 1) (c2 + 6) hs2 (Nat.le_refl _) (Nat.le_refl _)
    have th := cM_thrown (l := l) (g := g) (d := 19) (z := z2)
    by_cases t0 : t = 0
    · have f18 := e18 t0
      have fv := hv t0
      have ec : aCmp (z2 (18, 0, 0) 0) v = 0 := by rw [f18]; exact aCmp_rf v
      unfold aIR at fv
      refine hB tc_runAt kc_runAt [2859] 1000 _ _ _ _ _ ?_
      repeat' (first | exact fin | refine And.intro ?_ ?_ | (intro hh; first | exact absurd hh (by decide) | exact absurd rfl hh | (exfalso; omega) | skip) | refine Or.inl (uE th ?_) | fail)
      all_goals first | omega | (exact rfl) | (show (1 : Nat) ≤ 20; decide)
    · refine hB tc_runAt kc_runAt [2859] 1000 _ _ _ _ _ ?_
      repeat' (first | exact fin | refine And.intro ?_ ?_ | (intro hh; first | exact absurd hh (by decide) | exact absurd rfl hh | (exfalso; omega) | skip) | refine Or.inl (uE th ?_) | fail)
      all_goals first | omega | (exact rfl) | (show (1 : Nat) ≤ 20; decide)
  have l2 : ∀ r z1, lQ z R r z1 → aPu r [] (fun st => B (none, c1 + 1, c2 + 6) z1 2130 [some (.inr (.inr (.inl (31, 0, 0)))), some (.inr (.inr (.inl (0, 0, 0)))), some (.inr (.inr (.inl (16, 0, 0)))), some (.inr (.inr (.inl (18, 0, 0)))), some (.inr (.inr (.inl (19, 0, 0)))), some (.inl i), none, none, none] st) := by
    intro r z1 hz1
    obtain ⟨rfl, q1, q2, q3⟩ := hz1
    have md := hs.mid q3
    have a1 : z1 (31, 0, 0) (i + 1) = x1 := by rw [md.2]; exact e1.symm
    have cm : mOp l g nX7_runAt 19 [.inr (.inr (.inl (16, 0, 0))), .inl (z1 (31, 0, 0) (i + 1))] z1 R := by
      rw [a1]
      exact cm0 z1 md.1
    have l4 : ∀ r z2, (r = some (.inl R.2.1) ∧ (RelM z2 R.2.2 ∧ z2 (16, 0, 0) 9 = R.1) ∧ fM z1 z2) → aPu r [] (fun st => B (none, c1 + 1, c2 + 6) z2 2142 [some (.inr (.inr (.inl (31, 0, 0)))), some (.inr (.inr (.inl (0, 0, 0)))), some (.inr (.inr (.inl (16, 0, 0)))), some (.inr (.inr (.inl (18, 0, 0)))), some (.inr (.inr (.inl (19, 0, 0)))), some (.inl i), some (.inl R.1), none, none] st) := by
      intro r z2 hz2
      obtain ⟨rfl, ⟨p1, p2⟩, p3⟩ := hz2
      exact l3 z2 R.1 R.2.1 R.2.2 (hs.fin q3 q2 p1 p3 hIL.1 hIL.2) lt0 p2 (fun w => by rw [p3 (18, 0, 0) ⟨by decide, by decide⟩]; exact q1 w) lv.2
    refine hB tc_runAt kc_runAt [2142] 1000 _ _ _ _ _ ?_
    repeat' (first | exact Or.inl (uA cm l4) | refine And.intro ?_ ?_ | (intro hh; first | exact absurd hh (by decide) | exact absurd rfl hh | (exfalso; omega) | skip) | fail)
    all_goals first | omega | (exact rfl) | (show (1 : Nat) ≤ 20; decide)
  refine hB tc_runAt kc_runAt [2130] 1000 _ _ _ _ _ ?_
  repeat' (first | exact Or.inr (Or.inr ⟨1, 6, ⟨k1, k2⟩, uL ct l2⟩) | refine And.intro ?_ ?_ | (intro hh; first | exact absurd hh (by decide) | exact absurd rfl hh | (exfalso; omega) | skip) | fail)
  all_goals first | omega | (exact rfl) | (show (1 : Nat) ≤ 20; decide)
theorem wL_rankOf (hB : lBt l g Q X B) (h : lIn g S z A i c1 c2) (hN : lNx S B i c1 c2) : B (none, c1, c2) z 2175 [some (.inr (.inr (.inl (31, 0, 0)))), some (.inr (.inr (.inl (0, 0, 0)))), some (.inr (.inr (.inl (16, 0, 0)))), some (.inr (.inr (.inl (18, 0, 0)))), some (.inr (.inr (.inl (19, 0, 0)))), some (.inl i), none, none, none] [] := by
  obtain ⟨hs, hS, ⟨i0, i1⟩, k1, k2⟩ := h
  obtain ⟨⟨hC, hM⟩, ⟨hI, hL⟩, hz⟩ := id hs
  obtain ⟨x1, e1⟩ : ∃ x, x = z (31, 0, 0) (i + 1) := ⟨_, rfl⟩
  have h1 : aIR x1 := by rw [e1, hz]; exact hS _
  have lv := lV_rankOf (r := x1) hI
  have ct : lOp l g nL_rankOf 19 [.inr (.inr (.inl (0, 0, 0))), .inl (z (31, 0, 0) (i + 1)), .inr (.inr (.inl (18, 0, 0)))] z (lQ z (qR (isN (wM A) x1) (sRank (wM A) x1) A)) := by
    rw [← e1]
    exact lT_rankOf (by decide) (cT_rankOf h1 (by decide) hC hI) lv.1 lv.2
  have hIL : InvW (qR (isN (wM A) x1) (sRank (wM A) x1) A).2.2 ∧ InvL (qR (isN (wM A) x1) (sRank (wM A) x1) A).2.2 := lI_A qR_A hI hL
  have cm0 : ∀ z1, RelM z1 A → mOp l g nX7_rankOf 19 [.inr (.inr (.inl (16, 0, 0))), .inl x1] z1 (qR (isN (wM A) x1) (sRank (wM A) x1) A) := fun z1 md => cM_rankOf h1 (by decide) md hI
  obtain ⟨R, eR⟩ : ∃ R : aRes, R = (qR (isN (wM A) x1) (sRank (wM A) x1) A) := ⟨_, rfl⟩
  rw [← eR] at lv ct hIL
  simp only [← eR] at cm0
  clear eR
  have lt0 : 0 ≤ R.1 ∧ R.1 ≤ 3 := by have := lv.1; omega
  have l3 : ∀ (z2 : aM) (t : Int) (v : Int) (A2 : aAb), lS S z2 A2 → (0 ≤ t ∧ t ≤ 3) → z2 (16, 0, 0) 9 = t → (t = 0 → z2 (18, 0, 0) 0 = v) → (t = 0 → aIR v) → B (none, c1 + 1, c2 + 6) z2 2198 [some (.inr (.inr (.inl (31, 0, 0)))), some (.inr (.inr (.inl (0, 0, 0)))), some (.inr (.inr (.inl (16, 0, 0)))), some (.inr (.inr (.inl (18, 0, 0)))), some (.inr (.inr (.inl (19, 0, 0)))), some (.inl i), some (.inl t), none, none] [.inl v] := by
    intro z2 t v A2 hs2 ht e9 e18 hv
    have fin := hN z2 A2 (some (.inl t)) (some (.inl v)) none (c1 + 1) (c2 + 6) hs2 (Nat.le_refl _) (Nat.le_refl _)
    have th := cM_thrown (l := l) (g := g) (d := 19) (z := z2)
    by_cases t0 : t = 0
    · have f18 := e18 t0
      have fv := hv t0
      have ec : aCmp (z2 (18, 0, 0) 0) v = 0 := by rw [f18]; exact aCmp_rf v
      unfold aIR at fv
      refine hB tc_rankOf kc_rankOf [2859] 1000 _ _ _ _ _ ?_
      repeat' (first | exact fin | refine And.intro ?_ ?_ | (intro hh; first | exact absurd hh (by decide) | exact absurd rfl hh | (exfalso; omega) | skip) | refine Or.inl (uE th ?_) | fail)
      all_goals first | omega | (exact rfl) | (show (1 : Nat) ≤ 20; decide)
    · refine hB tc_rankOf kc_rankOf [2859] 1000 _ _ _ _ _ ?_
      repeat' (first | exact fin | refine And.intro ?_ ?_ | (intro hh; first | exact absurd hh (by decide) | exact absurd rfl hh | (exfalso; omega) | skip) | refine Or.inl (uE th ?_) | fail)
      all_goals first | omega | (exact rfl) | (show (1 : Nat) ≤ 20; decide)
  have l2 : ∀ r z1, lQ z R r z1 → aPu r [] (fun st => B (none, c1 + 1, c2 + 6) z1 2186 [some (.inr (.inr (.inl (31, 0, 0)))), some (.inr (.inr (.inl (0, 0, 0)))), some (.inr (.inr (.inl (16, 0, 0)))), some (.inr (.inr (.inl (18, 0, 0)))), some (.inr (.inr (.inl (19, 0, 0)))), some (.inl i), none, none, none] st) := by
    intro r z1 hz1
    obtain ⟨rfl, q1, q2, q3⟩ := hz1
    have md := hs.mid q3
    have a1 : z1 (31, 0, 0) (i + 1) = x1 := by rw [md.2]; exact e1.symm
    have cm : mOp l g nX7_rankOf 19 [.inr (.inr (.inl (16, 0, 0))), .inl (z1 (31, 0, 0) (i + 1))] z1 R := by
      rw [a1]
      exact cm0 z1 md.1
    have l4 : ∀ r z2, (r = some (.inl R.2.1) ∧ (RelM z2 R.2.2 ∧ z2 (16, 0, 0) 9 = R.1) ∧ fM z1 z2) → aPu r [] (fun st => B (none, c1 + 1, c2 + 6) z2 2198 [some (.inr (.inr (.inl (31, 0, 0)))), some (.inr (.inr (.inl (0, 0, 0)))), some (.inr (.inr (.inl (16, 0, 0)))), some (.inr (.inr (.inl (18, 0, 0)))), some (.inr (.inr (.inl (19, 0, 0)))), some (.inl i), some (.inl R.1), none, none] st) := by
      intro r z2 hz2
      obtain ⟨rfl, ⟨p1, p2⟩, p3⟩ := hz2
      exact l3 z2 R.1 R.2.1 R.2.2 (hs.fin q3 q2 p1 p3 hIL.1 hIL.2) lt0 p2 (fun w => by rw [p3 (18, 0, 0) ⟨by decide, by decide⟩]; exact q1 w) lv.2
    refine hB tc_rankOf kc_rankOf [2198] 1000 _ _ _ _ _ ?_
    repeat' (first | exact Or.inl (uA cm l4) | refine And.intro ?_ ?_ | (intro hh; first | exact absurd hh (by decide) | exact absurd rfl hh | (exfalso; omega) | skip) | fail)
    all_goals first | omega | (exact rfl) | (show (1 : Nat) ≤ 20; decide)
  refine hB tc_rankOf kc_rankOf [2186] 1000 _ _ _ _ _ ?_
  repeat' (first | exact Or.inr (Or.inr ⟨1, 6, ⟨k1, k2⟩, uL ct l2⟩) | refine And.intro ?_ ?_ | (intro hh; first | exact absurd hh (by decide) | exact absurd rfl hh | (exfalso; omega) | skip) | fail)
  all_goals first | omega | (exact rfl) | (show (1 : Nat) ≤ 20; decide)
theorem wL_bestOn (hB : lBt l g Q X B) (h : lIn g S z A i c1 c2) (hN : lNx S B i c1 c2) : B (none, c1, c2) z 2231 [some (.inr (.inr (.inl (31, 0, 0)))), some (.inr (.inr (.inl (0, 0, 0)))), some (.inr (.inr (.inl (16, 0, 0)))), some (.inr (.inr (.inl (18, 0, 0)))), some (.inr (.inr (.inl (19, 0, 0)))), some (.inl i), none, none, none] [] := by
  obtain ⟨hs, hS, ⟨i0, i1⟩, k1, k2⟩ := h
  obtain ⟨⟨hC, hM⟩, ⟨hI, hL⟩, hz⟩ := id hs
  obtain ⟨x1, e1⟩ : ∃ x, x = z (31, 0, 0) (i + 1) := ⟨_, rfl⟩
  have h1 : aIR x1 := by rw [e1, hz]; exact hS _
  have lv := lV_bestOn (k := x1) hI
  have ct : lOp l g nL_bestOn 19 [.inr (.inr (.inl (0, 0, 0))), .inl (z (31, 0, 0) (i + 1)), .inr (.inr (.inl (18, 0, 0)))] z (lQ z (qBest x1 A)) := by
    rw [← e1]
    exact lT_bestOn (by decide) (cT_bestOn h1 (by decide) hC hI) lv.1 lv.2
  have hIL : InvW (qBest x1 A).2.2 ∧ InvL (qBest x1 A).2.2 := lI_A qBest_A hI hL
  have cm0 : ∀ z1, RelM z1 A → mOp l g nX7_bestOn 19 [.inr (.inr (.inl (16, 0, 0))), .inl x1] z1 (qBest x1 A) := fun z1 md => cM_bestOn h1 (by decide) md hI
  obtain ⟨R, eR⟩ : ∃ R : aRes, R = (qBest x1 A) := ⟨_, rfl⟩
  rw [← eR] at lv ct hIL
  simp only [← eR] at cm0
  clear eR
  have lt0 : 0 ≤ R.1 ∧ R.1 ≤ 3 := by have := lv.1; omega
  have l3 : ∀ (z2 : aM) (t : Int) (v : Int) (A2 : aAb), lS S z2 A2 → (0 ≤ t ∧ t ≤ 3) → z2 (16, 0, 0) 9 = t → (t = 0 → z2 (18, 0, 0) 0 = v) → (t = 0 → aIR v) → B (none, c1 + 1, c2 + 6) z2 2254 [some (.inr (.inr (.inl (31, 0, 0)))), some (.inr (.inr (.inl (0, 0, 0)))), some (.inr (.inr (.inl (16, 0, 0)))), some (.inr (.inr (.inl (18, 0, 0)))), some (.inr (.inr (.inl (19, 0, 0)))), some (.inl i), some (.inl t), none, none] [.inl v] := by
    intro z2 t v A2 hs2 ht e9 e18 hv
    have fin := hN z2 A2 (some (.inl t)) (some (.inl v)) none (c1 + 1) (c2 + 6) hs2 (Nat.le_refl _) (Nat.le_refl _)
    have th := cM_thrown (l := l) (g := g) (d := 19) (z := z2)
    by_cases t0 : t = 0
    · have f18 := e18 t0
      have fv := hv t0
      have ec : aCmp (z2 (18, 0, 0) 0) v = 0 := by rw [f18]; exact aCmp_rf v
      unfold aIR at fv
      refine hB tc_bestOn kc_bestOn [2859] 1000 _ _ _ _ _ ?_
      repeat' (first | exact fin | refine And.intro ?_ ?_ | (intro hh; first | exact absurd hh (by decide) | exact absurd rfl hh | (exfalso; omega) | skip) | refine Or.inl (uE th ?_) | fail)
      all_goals first | omega | (exact rfl) | (show (1 : Nat) ≤ 20; decide)
    · refine hB tc_bestOn kc_bestOn [2859] 1000 _ _ _ _ _ ?_
      repeat' (first | exact fin | refine And.intro ?_ ?_ | (intro hh; first | exact absurd hh (by decide) | exact absurd rfl hh | (exfalso; omega) | skip) | refine Or.inl (uE th ?_) | fail)
      all_goals first | omega | (exact rfl) | (show (1 : Nat) ≤ 20; decide)
  have l2 : ∀ r z1, lQ z R r z1 → aPu r [] (fun st => B (none, c1 + 1, c2 + 6) z1 2242 [some (.inr (.inr (.inl (31, 0, 0)))), some (.inr (.inr (.inl (0, 0, 0)))), some (.inr (.inr (.inl (16, 0, 0)))), some (.inr (.inr (.inl (18, 0, 0)))), some (.inr (.inr (.inl (19, 0, 0)))), some (.inl i), none, none, none] st) := by
    intro r z1 hz1
    obtain ⟨rfl, q1, q2, q3⟩ := hz1
    have md := hs.mid q3
    have a1 : z1 (31, 0, 0) (i + 1) = x1 := by rw [md.2]; exact e1.symm
    have cm : mOp l g nX7_bestOn 19 [.inr (.inr (.inl (16, 0, 0))), .inl (z1 (31, 0, 0) (i + 1))] z1 R := by
      rw [a1]
      exact cm0 z1 md.1
    have l4 : ∀ r z2, (r = some (.inl R.2.1) ∧ (RelM z2 R.2.2 ∧ z2 (16, 0, 0) 9 = R.1) ∧ fM z1 z2) → aPu r [] (fun st => B (none, c1 + 1, c2 + 6) z2 2254 [some (.inr (.inr (.inl (31, 0, 0)))), some (.inr (.inr (.inl (0, 0, 0)))), some (.inr (.inr (.inl (16, 0, 0)))), some (.inr (.inr (.inl (18, 0, 0)))), some (.inr (.inr (.inl (19, 0, 0)))), some (.inl i), some (.inl R.1), none, none] st) := by
      intro r z2 hz2
      obtain ⟨rfl, ⟨p1, p2⟩, p3⟩ := hz2
      exact l3 z2 R.1 R.2.1 R.2.2 (hs.fin q3 q2 p1 p3 hIL.1 hIL.2) lt0 p2 (fun w => by rw [p3 (18, 0, 0) ⟨by decide, by decide⟩]; exact q1 w) lv.2
    refine hB tc_bestOn kc_bestOn [2254] 1000 _ _ _ _ _ ?_
    repeat' (first | exact Or.inl (uA cm l4) | refine And.intro ?_ ?_ | (intro hh; first | exact absurd hh (by decide) | exact absurd rfl hh | (exfalso; omega) | skip) | fail)
    all_goals first | omega | (exact rfl) | (show (1 : Nat) ≤ 20; decide)
  refine hB tc_bestOn kc_bestOn [2242] 1000 _ _ _ _ _ ?_
  repeat' (first | exact Or.inr (Or.inr ⟨1, 6, ⟨k1, k2⟩, uL ct l2⟩) | refine And.intro ?_ ?_ | (intro hh; first | exact absurd hh (by decide) | exact absurd rfl hh | (exfalso; omega) | skip) | fail)
  all_goals first | omega | (exact rfl) | (show (1 : Nat) ≤ 20; decide)
theorem wL_meanScore (hB : lBt l g Q X B) (h : lIn g S z A i c1 c2) (hN : lNx S B i c1 c2) : B (none, c1, c2) z 2287 [some (.inr (.inr (.inl (31, 0, 0)))), some (.inr (.inr (.inl (0, 0, 0)))), some (.inr (.inr (.inl (16, 0, 0)))), some (.inr (.inr (.inl (18, 0, 0)))), some (.inr (.inr (.inl (19, 0, 0)))), some (.inl i), none, none, none] [] := by
  obtain ⟨hs, hS, ⟨i0, i1⟩, k1, k2⟩ := h
  obtain ⟨⟨hC, hM⟩, ⟨hI, hL⟩, hz⟩ := id hs
  have lv := lV_meanScore  hI
  have le := lM_mean hI
  have ct : lOp l g nL_meanScore 19 [.inr (.inr (.inl (0, 0, 0))), .inr (.inr (.inl (19, 0, 0)))] z (lQD z (qMean A)) := by
    exact lT_meanScore (by decide) (cT_meanScore (by decide) hC hI) lv
  have hIL : InvW (qMean A).2.2 ∧ InvL (qMean A).2.2 := lI_A qMean_A hI hL
  have cm0 : ∀ z1, RelM z1 A → mOpD l g nX7_meanScore 19 [.inr (.inr (.inl (16, 0, 0)))] z1 (qMean A) := fun z1 md => cM_meanScore (by decide) md hI
  obtain ⟨R, eR⟩ : ∃ R : Int × UInt64 × aAb, R = (qMean A) := ⟨_, rfl⟩
  rw [← eR] at lv ct hIL le
  simp only [← eR] at cm0
  clear eR
  have lt0 : 0 ≤ R.1 ∧ R.1 ≤ 3 := by omega
  have l3 : ∀ (z2 : aM) (t : Int) (v : UInt64) (A2 : aAb), lS S z2 A2 → (0 ≤ t ∧ t ≤ 3) → z2 (16, 0, 0) 9 = t → (t = 0 → z2 (19, 0, 0) 0 = (v.toNat : Int)) → (t = 0 → FP.dcmp v v = some .eq) → B (none, c1 + 1, c2 + 6) z2 2299 [some (.inr (.inr (.inl (31, 0, 0)))), some (.inr (.inr (.inl (0, 0, 0)))), some (.inr (.inr (.inl (16, 0, 0)))), some (.inr (.inr (.inl (18, 0, 0)))), some (.inr (.inr (.inl (19, 0, 0)))), some (.inl i), some (.inl t), none, none] [.inr (.inr (.inr (.double v)))] := by
    intro z2 t v A2 hs2 ht e9 e18 hv
    have fin := hN z2 A2 (some (.inl t)) (some (.inr (.inr (.inr (.double v))))) none (c1 + 1) (c2 + 6) hs2 (Nat.le_refl _) (Nat.le_refl _)
    have th := cM_thrown (l := l) (g := g) (d := 19) (z := z2)
    by_cases t0 : t = 0
    · have ed : UInt64.ofNat (z2 (19, 0, 0) 0).toNat = v := by rw [e18 t0]; exact uD_rt v
      have ec : (Op.cmpValue (FP.dcmp (UInt64.ofNat (z2 (19, 0, 0) 0).toNat) v) .l).toInt = 0 := by rw [ed]; exact cmpV0 (hv t0)
      refine hB tc_meanScore kc_meanScore [2859] 1000 _ _ _ _ _ ?_
      repeat' (first | exact fin | refine And.intro ?_ ?_ | (intro hh; first | exact absurd hh (by decide) | exact absurd rfl hh | (exfalso; omega) | skip) | refine Or.inl (uE th ?_) | fail)
      all_goals first | omega | (exact rfl) | (show (1 : Nat) ≤ 20; decide)
    · refine hB tc_meanScore kc_meanScore [2859] 1000 _ _ _ _ _ ?_
      repeat' (first | exact fin | refine And.intro ?_ ?_ | (intro hh; first | exact absurd hh (by decide) | exact absurd rfl hh | (exfalso; omega) | skip) | refine Or.inl (uE th ?_) | fail)
      all_goals first | omega | (exact rfl) | (show (1 : Nat) ≤ 20; decide)
  have l2 : ∀ r z1, lQD z R r z1 → aPu r [] (fun st => B (none, c1 + 1, c2 + 6) z1 2293 [some (.inr (.inr (.inl (31, 0, 0)))), some (.inr (.inr (.inl (0, 0, 0)))), some (.inr (.inr (.inl (16, 0, 0)))), some (.inr (.inr (.inl (18, 0, 0)))), some (.inr (.inr (.inl (19, 0, 0)))), some (.inl i), none, none, none] st) := by
    intro r z1 hz1
    obtain ⟨rfl, q1, q2, q3⟩ := hz1
    have md := hs.mid q3
    have cm : mOpD l g nX7_meanScore 19 [.inr (.inr (.inl (16, 0, 0)))] z1 R := by
      exact cm0 z1 md.1
    have l4 : ∀ r z2, (r = some (.inr (.inr (.inr (.double R.2.1)))) ∧ (RelM z2 R.2.2 ∧ z2 (16, 0, 0) 9 = R.1) ∧ fM z1 z2) → aPu r [] (fun st => B (none, c1 + 1, c2 + 6) z2 2299 [some (.inr (.inr (.inl (31, 0, 0)))), some (.inr (.inr (.inl (0, 0, 0)))), some (.inr (.inr (.inl (16, 0, 0)))), some (.inr (.inr (.inl (18, 0, 0)))), some (.inr (.inr (.inl (19, 0, 0)))), some (.inl i), some (.inl R.1), none, none] st) := by
      intro r z2 hz2
      obtain ⟨rfl, ⟨p1, p2⟩, p3⟩ := hz2
      exact l3 z2 R.1 R.2.1 R.2.2 (hs.fin q3 q2 p1 p3 hIL.1 hIL.2) lt0 p2 (fun w => by rw [p3 (19, 0, 0) ⟨by decide, by decide⟩]; exact q1 w) le
    refine hB tc_meanScore kc_meanScore [2299] 1000 _ _ _ _ _ ?_
    repeat' (first | exact Or.inl (uA cm l4) | refine And.intro ?_ ?_ | (intro hh; first | exact absurd hh (by decide) | exact absurd rfl hh | (exfalso; omega) | skip) | fail)
    all_goals first | omega | (exact rfl) | (show (1 : Nat) ≤ 20; decide)
  refine hB tc_meanScore kc_meanScore [2293] 1000 _ _ _ _ _ ?_
  repeat' (first | exact Or.inr (Or.inr ⟨1, 6, ⟨k1, k2⟩, uL ct l2⟩) | refine And.intro ?_ ?_ | (intro hh; first | exact absurd hh (by decide) | exact absurd rfl hh | (exfalso; omega) | skip) | fail)
  all_goals first | omega | (exact rfl) | (show (1 : Nat) ≤ 20; decide)
theorem wL_passRate (hB : lBt l g Q X B) (h : lIn g S z A i c1 c2) (hN : lNx S B i c1 c2) : B (none, c1, c2) z 2352 [some (.inr (.inr (.inl (31, 0, 0)))), some (.inr (.inr (.inl (0, 0, 0)))), some (.inr (.inr (.inl (16, 0, 0)))), some (.inr (.inr (.inl (18, 0, 0)))), some (.inr (.inr (.inl (19, 0, 0)))), some (.inl i), none, none, none] [] := by
  obtain ⟨hs, hS, ⟨i0, i1⟩, k1, k2⟩ := h
  obtain ⟨⟨hC, hM⟩, ⟨hI, hL⟩, hz⟩ := id hs
  obtain ⟨x1, e1⟩ : ∃ x, x = z (31, 0, 0) (i + 1) := ⟨_, rfl⟩
  have h1 : aIR x1 := by rw [e1, hz]; exact hS _
  have lv := lV_passRate (k := x1) hI
  have le := lM_rate (k := x1) hI
  have ct : lOp l g nL_passRate 19 [.inr (.inr (.inl (0, 0, 0))), .inl (z (31, 0, 0) (i + 1)), .inr (.inr (.inl (19, 0, 0)))] z (lQF z (qRate x1 A)) := by
    rw [← e1]
    exact lT_passRate (by decide) (cT_passRate h1 (by decide) hC hI) lv.1 lv.2
  have hIL : InvW (qRate x1 A).2.2 ∧ InvL (qRate x1 A).2.2 := lI_A qRate_A hI hL
  have cm0 : ∀ z1, RelM z1 A → mOpF l g nX7_passRate 19 [.inr (.inr (.inl (16, 0, 0))), .inl x1] z1 (qRate x1 A) := fun z1 md => cM_passRate h1 (by decide) md hI
  obtain ⟨R, eR⟩ : ∃ R : Int × UInt32 × aAb, R = (qRate x1 A) := ⟨_, rfl⟩
  rw [← eR] at lv ct hIL le
  simp only [← eR] at cm0
  clear eR
  have lt0 : 0 ≤ R.1 ∧ R.1 ≤ 3 := by have := lv.1; omega
  have l3 : ∀ (z2 : aM) (t : Int) (v : UInt32) (A2 : aAb), lS S z2 A2 → (0 ≤ t ∧ t ≤ 3) → z2 (16, 0, 0) 9 = t → (t = 0 → z2 (19, 0, 0) 0 = ((FP.f2d v).toNat : Int)) → (t = 0 → vf_n64 (FP.f2d v) ∧ FP.dcmp (FP.f2d v) (FP.f2d v) = some .eq) → B (none, c1 + 1, c2 + 6) z2 2376 [some (.inr (.inr (.inl (31, 0, 0)))), some (.inr (.inr (.inl (0, 0, 0)))), some (.inr (.inr (.inl (16, 0, 0)))), some (.inr (.inr (.inl (18, 0, 0)))), some (.inr (.inr (.inl (19, 0, 0)))), some (.inl i), some (.inl t), none, none] [.inr (.inr (.inr (.float v)))] := by
    intro z2 t v A2 hs2 ht e9 e18 hv
    have fin := hN z2 A2 (some (.inl t)) (some (.inr (.inr (.inr (.float v))))) none (c1 + 1) (c2 + 6) hs2 (Nat.le_refl _) (Nat.le_refl _)
    have th := cM_thrown (l := l) (g := g) (d := 19) (z := z2)
    by_cases t0 : t = 0
    · have ed : UInt64.ofNat (z2 (19, 0, 0) 0).toNat = FP.f2d v := by rw [e18 t0]; exact uD_rt _
      have ec : (Op.cmpValue (FP.dcmp (UInt64.ofNat (z2 (19, 0, 0) 0).toNat) (FP.f2d v)) .l).toInt = 0 := by rw [ed]; exact cmpV0 (hv t0).2
      have hn := (hv t0).1
      refine hB tc_passRate kc_passRate [2859] 1000 _ _ _ _ _ ?_
      repeat' (first | exact fin | refine And.intro ?_ ?_ | (intro hh; first | exact absurd hh (by decide) | exact absurd rfl hh | (exfalso; omega) | skip) | refine Or.inl (uE th ?_) | fail)
      all_goals first | omega | (exact rfl) | (show (1 : Nat) ≤ 20; decide) | exact hn
    · refine hB tc_passRate kc_passRate [2859] 1000 _ _ _ _ _ ?_
      repeat' (first | exact fin | refine And.intro ?_ ?_ | (intro hh; first | exact absurd hh (by decide) | exact absurd rfl hh | (exfalso; omega) | skip) | refine Or.inl (uE th ?_) | fail)
      all_goals first | omega | (exact rfl) | (show (1 : Nat) ≤ 20; decide)
  have l2 : ∀ r z1, lQF z R r z1 → aPu r [] (fun st => B (none, c1 + 1, c2 + 6) z1 2364 [some (.inr (.inr (.inl (31, 0, 0)))), some (.inr (.inr (.inl (0, 0, 0)))), some (.inr (.inr (.inl (16, 0, 0)))), some (.inr (.inr (.inl (18, 0, 0)))), some (.inr (.inr (.inl (19, 0, 0)))), some (.inl i), none, none, none] st) := by
    intro r z1 hz1
    obtain ⟨rfl, q1, q2, q3⟩ := hz1
    have md := hs.mid q3
    have a1 : z1 (31, 0, 0) (i + 1) = x1 := by rw [md.2]; exact e1.symm
    have cm : mOpF l g nX7_passRate 19 [.inr (.inr (.inl (16, 0, 0))), .inl (z1 (31, 0, 0) (i + 1))] z1 R := by
      rw [a1]
      exact cm0 z1 md.1
    have l4 : ∀ r z2, (r = some (.inr (.inr (.inr (.float R.2.1)))) ∧ (RelM z2 R.2.2 ∧ z2 (16, 0, 0) 9 = R.1) ∧ fM z1 z2) → aPu r [] (fun st => B (none, c1 + 1, c2 + 6) z2 2376 [some (.inr (.inr (.inl (31, 0, 0)))), some (.inr (.inr (.inl (0, 0, 0)))), some (.inr (.inr (.inl (16, 0, 0)))), some (.inr (.inr (.inl (18, 0, 0)))), some (.inr (.inr (.inl (19, 0, 0)))), some (.inl i), some (.inl R.1), none, none] st) := by
      intro r z2 hz2
      obtain ⟨rfl, ⟨p1, p2⟩, p3⟩ := hz2
      exact l3 z2 R.1 R.2.1 R.2.2 (hs.fin q3 q2 p1 p3 hIL.1 hIL.2) lt0 p2 (fun w => by rw [p3 (19, 0, 0) ⟨by decide, by decide⟩]; exact q1 w) (fun w => ⟨lv.2 w, le w⟩)
    refine hB tc_passRate kc_passRate [2376] 1000 _ _ _ _ _ ?_
    repeat' (first | exact Or.inl (uA cm l4) | refine And.intro ?_ ?_ | (intro hh; first | exact absurd hh (by decide) | exact absurd rfl hh | (exfalso; omega) | skip) | fail)
    all_goals first | omega | (exact rfl) | (show (1 : Nat) ≤ 20; decide)
  refine hB tc_passRate kc_passRate [2364] 1000 _ _ _ _ _ ?_
  repeat' (first | exact Or.inr (Or.inr ⟨1, 6, ⟨k1, k2⟩, uL ct l2⟩) | refine And.intro ?_ ?_ | (intro hh; first | exact absurd hh (by decide) | exact absurd rfl hh | (exfalso; omega) | skip) | fail)
  all_goals first | omega | (exact rfl) | (show (1 : Nat) ≤ 20; decide)
theorem wL_isConsistent (hB : lBt l g Q X B) (h : lIn g S z A i c1 c2) (hN : lNx S B i c1 c2) : B (none, c1, c2) z 2430 [some (.inr (.inr (.inl (31, 0, 0)))), some (.inr (.inr (.inl (0, 0, 0)))), some (.inr (.inr (.inl (16, 0, 0)))), some (.inr (.inr (.inl (18, 0, 0)))), some (.inr (.inr (.inl (19, 0, 0)))), some (.inl i), none, none, none] [] := by
  obtain ⟨hs, hS, ⟨i0, i1⟩, k1, k2⟩ := h
  obtain ⟨⟨hC, hM⟩, ⟨hI, hL⟩, hz⟩ := id hs
  have hIL : InvW A ∧ InvL A := And.intro hI hL
  obtain ⟨v, ev⟩ : ∃ v : Int, v = 1 := ⟨_, rfl⟩
  have hv : aIR v := by
    rw [ev]
    exact aIR_of (by decide) (by decide)
  have ct : aM1 l g nX6_isConsistent 19 [.inr (.inr (.inl (0, 0, 0)))] z (fun r z' => r = some (.inl v) ∧ RelC z' A ∧ fC z z') := by
    rw [ev]
    exact (cT_isConsistent (l := l) (g := g) (d := 19) (z := z) (A := A) (by decide) hC hI).1 rfl
  have l2 : ∀ r z1, (r = some (.inl v) ∧ RelC z1 A ∧ fC z z1) → aPu r [] (fun st => B (none, c1, c2) z1 2434 [some (.inr (.inr (.inl (31, 0, 0)))), some (.inr (.inr (.inl (0, 0, 0)))), some (.inr (.inr (.inl (16, 0, 0)))), some (.inr (.inr (.inl (18, 0, 0)))), some (.inr (.inr (.inl (19, 0, 0)))), some (.inl i), none, none, none] st) := by
    intro r z1 hz1
    obtain ⟨rfl, q2, q3⟩ := hz1
    have md := hs.mid q3.fL
    have cm : aM1 l g nX7_isConsistent 19 [.inr (.inr (.inl (16, 0, 0)))] z1 (fun r z' => r = some (.inl v) ∧ (RelM z' A ∧ z' (16, 0, 0) 9 = 0) ∧ fM z1 z') := by
      rw [ev]
      exact cM_isConsistent (by decide) md.1 hI
    have l3 : ∀ r z2, (r = some (.inl v) ∧ (RelM z2 A ∧ z2 (16, 0, 0) 9 = 0) ∧ fM z1 z2) → aPu r [.inl v] (fun st => B (none, c1, c2) z2 2438 [some (.inr (.inr (.inl (31, 0, 0)))), some (.inr (.inr (.inl (0, 0, 0)))), some (.inr (.inr (.inl (16, 0, 0)))), some (.inr (.inr (.inl (18, 0, 0)))), some (.inr (.inr (.inl (19, 0, 0)))), some (.inl i), none, none, none] st) := by
      intro r z2 hz2
      obtain ⟨rfl, ⟨p1, p2⟩, p3⟩ := hz2
      have fin := hN z2 A none none none c1 c2 (hs.fin q3.fL q2 p1 p3 hIL.1 hIL.2) (Nat.le_succ _) (Nat.le_add_right _ _)
      refine hB tc_isConsistent kc_isConsistent [2859] 1000 _ _ _ _ _ ?_
      repeat' (first | exact fin | refine And.intro ?_ ?_ | (intro hh; first | exact absurd hh (by decide) | exact absurd rfl hh | (exfalso; omega) | skip) | fail)
      all_goals first | exact hv.1 | exact hv.2
    refine hB tc_isConsistent kc_isConsistent [2438] 1000 _ _ _ _ _ ?_
    repeat' (first | exact Or.inl (uA cm l3) | refine And.intro ?_ ?_ | (intro hh; first | exact absurd hh (by decide) | exact absurd rfl hh | (exfalso; omega) | skip) | fail)
    all_goals first | omega | (exact rfl) | (show (1 : Nat) ≤ 20; decide)
  refine hB tc_isConsistent kc_isConsistent [2434] 1000 _ _ _ _ _ ?_
  repeat' (first | exact Or.inl (uA ct l2) | refine And.intro ?_ ?_ | (intro hh; first | exact absurd hh (by decide) | exact absurd rfl hh | (exfalso; omega) | skip) | fail)
  all_goals first | omega | (exact rfl) | (show (1 : Nat) ≤ 20; decide)
theorem wL_writeRun (hB : lBt l g Q X B) (h : lIn g S z A i c1 c2) (hN : lNx S B i c1 c2) : B (none, c1, c2) z 2443 [some (.inr (.inr (.inl (31, 0, 0)))), some (.inr (.inr (.inl (0, 0, 0)))), some (.inr (.inr (.inl (16, 0, 0)))), some (.inr (.inr (.inl (18, 0, 0)))), some (.inr (.inr (.inl (19, 0, 0)))), some (.inl i), none, none, none] [] := by
  obtain ⟨hs, hS, ⟨i0, i1⟩, k1, k2⟩ := h
  obtain ⟨⟨hC, hM⟩, ⟨hI, hL⟩, hz⟩ := id hs
  obtain ⟨x1, e1⟩ : ∃ x, x = z (31, 0, 0) (i + 1) := ⟨_, rfl⟩
  have h1 : aIR x1 := by rw [e1, hz]; exact hS _
  have lv := lV_writeRun (r := x1) hI
  have ct : lOp l g nL_writeRun 19 [.inr (.inr (.inl (0, 0, 0))), .inl (z (31, 0, 0) (i + 1)), .inr (.inr (.inl (18, 0, 0)))] z (lQ z (qWrite x1 A)) := by
    rw [← e1]
    exact lT_writeRun (by decide) (cT_writeRun h1 hL.1 (by decide) hC hI) lv.1 lv.2
  have hIL : InvW (qWrite x1 A).2.2 ∧ InvL (qWrite x1 A).2.2 := And.intro (qWrite_I hI) (qWrite_L hL)
  have cm0 : ∀ z1, RelM z1 A → mOp l g nX7_writeRun 19 [.inr (.inr (.inl (16, 0, 0))), .inl x1] z1 (qWrite x1 A) := fun z1 md => cM_writeRun h1 (by decide) md hI
  obtain ⟨R, eR⟩ : ∃ R : aRes, R = (qWrite x1 A) := ⟨_, rfl⟩
  rw [← eR] at lv ct hIL
  simp only [← eR] at cm0
  clear eR
  have lt0 : 0 ≤ R.1 ∧ R.1 ≤ 3 := by have := lv.1; omega
  have l3 : ∀ (z2 : aM) (t : Int) (v : Int) (A2 : aAb), lS S z2 A2 → (0 ≤ t ∧ t ≤ 3) → z2 (16, 0, 0) 9 = t → (t = 0 → z2 (18, 0, 0) 0 = v) → (t = 0 → aIR v) → B (none, c1 + 1, c2 + 6) z2 2466 [some (.inr (.inr (.inl (31, 0, 0)))), some (.inr (.inr (.inl (0, 0, 0)))), some (.inr (.inr (.inl (16, 0, 0)))), some (.inr (.inr (.inl (18, 0, 0)))), some (.inr (.inr (.inl (19, 0, 0)))), some (.inl i), some (.inl t), none, none] [.inl v] := by
    intro z2 t v A2 hs2 ht e9 e18 hv
    have fin := hN z2 A2 (some (.inl t)) (some (.inl v)) none (c1 + 1) (c2 + 6) hs2 (Nat.le_refl _) (Nat.le_refl _)
    have th := cM_thrown (l := l) (g := g) (d := 19) (z := z2)
    by_cases t0 : t = 0
    · have f18 := e18 t0
      have fv := hv t0
      have ec : aCmp (z2 (18, 0, 0) 0) v = 0 := by rw [f18]; exact aCmp_rf v
      unfold aIR at fv
      refine hB tc_writeRun kc_writeRun [2859] 1000 _ _ _ _ _ ?_
      repeat' (first | exact fin | refine And.intro ?_ ?_ | (intro hh; first | exact absurd hh (by decide) | exact absurd rfl hh | (exfalso; omega) | skip) | refine Or.inl (uE th ?_) | fail)
      all_goals first | omega | (exact rfl) | (show (1 : Nat) ≤ 20; decide)
    · refine hB tc_writeRun kc_writeRun [2859] 1000 _ _ _ _ _ ?_
      repeat' (first | exact fin | refine And.intro ?_ ?_ | (intro hh; first | exact absurd hh (by decide) | exact absurd rfl hh | (exfalso; omega) | skip) | refine Or.inl (uE th ?_) | fail)
      all_goals first | omega | (exact rfl) | (show (1 : Nat) ≤ 20; decide)
  have l2 : ∀ r z1, lQ z R r z1 → aPu r [] (fun st => B (none, c1 + 1, c2 + 6) z1 2454 [some (.inr (.inr (.inl (31, 0, 0)))), some (.inr (.inr (.inl (0, 0, 0)))), some (.inr (.inr (.inl (16, 0, 0)))), some (.inr (.inr (.inl (18, 0, 0)))), some (.inr (.inr (.inl (19, 0, 0)))), some (.inl i), none, none, none] st) := by
    intro r z1 hz1
    obtain ⟨rfl, q1, q2, q3⟩ := hz1
    have md := hs.mid q3
    have a1 : z1 (31, 0, 0) (i + 1) = x1 := by rw [md.2]; exact e1.symm
    have cm : mOp l g nX7_writeRun 19 [.inr (.inr (.inl (16, 0, 0))), .inl (z1 (31, 0, 0) (i + 1))] z1 R := by
      rw [a1]
      exact cm0 z1 md.1
    have l4 : ∀ r z2, (r = some (.inl R.2.1) ∧ (RelM z2 R.2.2 ∧ z2 (16, 0, 0) 9 = R.1) ∧ fM z1 z2) → aPu r [] (fun st => B (none, c1 + 1, c2 + 6) z2 2466 [some (.inr (.inr (.inl (31, 0, 0)))), some (.inr (.inr (.inl (0, 0, 0)))), some (.inr (.inr (.inl (16, 0, 0)))), some (.inr (.inr (.inl (18, 0, 0)))), some (.inr (.inr (.inl (19, 0, 0)))), some (.inl i), some (.inl R.1), none, none] st) := by
      intro r z2 hz2
      obtain ⟨rfl, ⟨p1, p2⟩, p3⟩ := hz2
      exact l3 z2 R.1 R.2.1 R.2.2 (hs.fin q3 q2 p1 p3 hIL.1 hIL.2) lt0 p2 (fun w => by rw [p3 (18, 0, 0) ⟨by decide, by decide⟩]; exact q1 w) lv.2
    refine hB tc_writeRun kc_writeRun [2466] 1000 _ _ _ _ _ ?_
    repeat' (first | exact Or.inl (uA cm l4) | refine And.intro ?_ ?_ | (intro hh; first | exact absurd hh (by decide) | exact absurd rfl hh | (exfalso; omega) | skip) | fail)
    all_goals first | omega | (exact rfl) | (show (1 : Nat) ≤ 20; decide)
  refine hB tc_writeRun kc_writeRun [2454] 1000 _ _ _ _ _ ?_
  repeat' (first | exact Or.inr (Or.inr ⟨1, 6, ⟨k1, k2⟩, uL ct l2⟩) | refine And.intro ?_ ?_ | (intro hh; first | exact absurd hh (by decide) | exact absurd rfl hh | (exfalso; omega) | skip) | fail)
  all_goals first | omega | (exact rfl) | (show (1 : Nat) ≤ 20; decide)
theorem wL_writeRanking (hB : lBt l g Q X B) (h : lIn g S z A i c1 c2) (hN : lNx S B i c1 c2) : B (none, c1, c2) z 2499 [some (.inr (.inr (.inl (31, 0, 0)))), some (.inr (.inr (.inl (0, 0, 0)))), some (.inr (.inr (.inl (16, 0, 0)))), some (.inr (.inr (.inl (18, 0, 0)))), some (.inr (.inr (.inl (19, 0, 0)))), some (.inl i), none, none, none] [] := by
  obtain ⟨hs, hS, ⟨i0, i1⟩, k1, k2⟩ := h
  obtain ⟨⟨hC, hM⟩, ⟨hI, hL⟩, hz⟩ := id hs
  have hIL : InvW (qWriteR A).2.2 ∧ InvL (qWriteR A).2.2 := And.intro (qWriteR_I hI) (qWriteR_L hL)
  obtain ⟨v, ev⟩ : ∃ v : Int, v = (qWriteR A).2.1 := ⟨_, rfl⟩
  have hv : aIR v := by
    rw [ev]
    exact by have cc := (qWriteR_I hI).2.2.2.2.1; exact aIR_of (Int.le_trans (by decide) cc.1) (Int.le_trans cc.2 (by decide))
  have ct : aM1 l g nX6_writeRanking 19 [.inr (.inr (.inl (0, 0, 0)))] z (fun r z' => r = some (.inl v) ∧ RelC z' (qWriteR A).2.2 ∧ fC z z') := by
    rw [ev]
    exact (cT_writeRanking (l := l) (g := g) (d := 19) (z := z) (A := A) (by decide) hC hI).1 rfl
  have l2 : ∀ r z1, (r = some (.inl v) ∧ RelC z1 (qWriteR A).2.2 ∧ fC z z1) → aPu r [] (fun st => B (none, c1, c2) z1 2503 [some (.inr (.inr (.inl (31, 0, 0)))), some (.inr (.inr (.inl (0, 0, 0)))), some (.inr (.inr (.inl (16, 0, 0)))), some (.inr (.inr (.inl (18, 0, 0)))), some (.inr (.inr (.inl (19, 0, 0)))), some (.inl i), none, none, none] st) := by
    intro r z1 hz1
    obtain ⟨rfl, q2, q3⟩ := hz1
    have md := hs.mid q3.fL
    have cm : aM1 l g nX7_writeRanking 19 [.inr (.inr (.inl (16, 0, 0)))] z1 (fun r z' => r = some (.inl v) ∧ (RelM z' (qWriteR A).2.2 ∧ z' (16, 0, 0) 9 = 0) ∧ fM z1 z') := by
      rw [ev]
      exact cM_writeRanking (by decide) md.1 hI
    have l3 : ∀ r z2, (r = some (.inl v) ∧ (RelM z2 (qWriteR A).2.2 ∧ z2 (16, 0, 0) 9 = 0) ∧ fM z1 z2) → aPu r [.inl v] (fun st => B (none, c1, c2) z2 2507 [some (.inr (.inr (.inl (31, 0, 0)))), some (.inr (.inr (.inl (0, 0, 0)))), some (.inr (.inr (.inl (16, 0, 0)))), some (.inr (.inr (.inl (18, 0, 0)))), some (.inr (.inr (.inl (19, 0, 0)))), some (.inl i), none, none, none] st) := by
      intro r z2 hz2
      obtain ⟨rfl, ⟨p1, p2⟩, p3⟩ := hz2
      have fin := hN z2 (qWriteR A).2.2 none none none c1 c2 (hs.fin q3.fL q2 p1 p3 hIL.1 hIL.2) (Nat.le_succ _) (Nat.le_add_right _ _)
      refine hB tc_writeRanking kc_writeRanking [2859] 1000 _ _ _ _ _ ?_
      repeat' (first | exact fin | refine And.intro ?_ ?_ | (intro hh; first | exact absurd hh (by decide) | exact absurd rfl hh | (exfalso; omega) | skip) | fail)
      all_goals first | exact hv.1 | exact hv.2
    refine hB tc_writeRanking kc_writeRanking [2507] 1000 _ _ _ _ _ ?_
    repeat' (first | exact Or.inl (uA cm l3) | refine And.intro ?_ ?_ | (intro hh; first | exact absurd hh (by decide) | exact absurd rfl hh | (exfalso; omega) | skip) | fail)
    all_goals first | omega | (exact rfl) | (show (1 : Nat) ≤ 20; decide)
  refine hB tc_writeRanking kc_writeRanking [2503] 1000 _ _ _ _ _ ?_
  repeat' (first | exact Or.inl (uA ct l2) | refine And.intro ?_ ?_ | (intro hh; first | exact absurd hh (by decide) | exact absurd rfl hh | (exfalso; omega) | skip) | fail)
  all_goals first | omega | (exact rfl) | (show (1 : Nat) ≤ 20; decide)
end LC
