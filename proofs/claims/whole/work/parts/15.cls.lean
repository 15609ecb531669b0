theorem hc1 : vwCl[1]? = some (RJ4, TJ4, 4) := rfl
theorem hin1 : ∀ w ∈ u_ws RJ4 TJ4 4, w ∈ TB := TB_all [117, 119, 121, 123] (by decide +kernel) (by decide +kernel)
theorem hty1 : ∀ k, k < 4 → parseFieldDescriptor (TJ4 k).2.2.1 = some (clT 1 k) := tyJ4_ok
theorem hnm1 : ∀ a, a < 4 → ∀ b, b < 4 → a ≠ b → (TJ4 a).2.1 ≠ (TJ4 b).2.1 := nmJ4
theorem hdf1 : ∀ k, k < 4 → defaultValue (clT 1 k) = if isR (clT 1 k) = true then .null else .int 0 := by decide +kernel
theorem hc4 : vwCl[4]? = some (RX0, TX0, 4) := rfl
theorem hin4 : ∀ w ∈ u_ws RX0 TX0 4, w ∈ TB := TB_all [340, 342, 344, 346] (by decide +kernel) (by decide +kernel)
theorem hty4 : ∀ k, k < 4 → parseFieldDescriptor (TX0 k).2.2.1 = some (clT 4 k) := tyX0_ok
theorem hnm4 : ∀ a, a < 4 → ∀ b, b < 4 → a ≠ b → (TX0 a).2.1 ≠ (TX0 b).2.1 := nmX0
theorem hdf4 : ∀ k, k < 4 → defaultValue (clT 4 k) = if isR (clT 4 k) = true then .null else .int 0 := by decide +kernel
theorem hc5 : vwCl[5]? = some (RX1, TX1, 3) := rfl
theorem hin5 : ∀ w ∈ u_ws RX1 TX1 3, w ∈ TB := TB_all [86, 88, 90] (by decide +kernel) (by decide +kernel)
theorem hty5 : ∀ k, k < 3 → parseFieldDescriptor (TX1 k).2.2.1 = some (clT 5 k) := tyX1_ok
theorem hnm5 : ∀ a, a < 3 → ∀ b, b < 3 → a ≠ b → (TX1 a).2.1 ≠ (TX1 b).2.1 := nmX1
theorem hdf5 : ∀ k, k < 3 → defaultValue (clT 5 k) = if isR (clT 5 k) = true then .null else .int 0 := by decide +kernel
theorem hc6 : vwCl[6]? = some (RX2, TX2, 9) := rfl
theorem hin6 : ∀ w ∈ u_ws RX2 TX2 9, w ∈ TB := TB_all [302, 304, 306, 308, 310, 312, 314, 316, 318] (by decide +kernel) (by decide +kernel)
theorem hty6 : ∀ k, k < 9 → parseFieldDescriptor (TX2 k).2.2.1 = some (clT 6 k) := tyX2_ok
theorem hnm6 : ∀ a, a < 9 → ∀ b, b < 9 → a ≠ b → (TX2 a).2.1 ≠ (TX2 b).2.1 := nmX2
theorem hdf6 : ∀ k, k < 9 → defaultValue (clT 6 k) = if isR (clT 6 k) = true then .null else .int 0 := by decide +kernel
theorem hc7 : vwCl[7]? = some (RX3, TX3, 2) := rfl
theorem hin7 : ∀ w ∈ u_ws RX3 TX3 2, w ∈ TB := TB_all [61, 63] (by decide +kernel) (by decide +kernel)
theorem hty7 : ∀ k, k < 2 → parseFieldDescriptor (TX3 k).2.2.1 = some (clT 7 k) := tyX3_ok
theorem hnm7 : ∀ a, a < 2 → ∀ b, b < 2 → a ≠ b → (TX3 a).2.1 ≠ (TX3 b).2.1 := nmX3
theorem hdf7 : ∀ k, k < 2 → defaultValue (clT 7 k) = if isR (clT 7 k) = true then .null else .int 0 := by decide +kernel
theorem hc8 : vwCl[8]? = some (RX4, TX4, 19) := rfl
theorem hin8 : ∀ w ∈ u_ws RX4 TX4 19, w ∈ TB := TB_all [242, 244, 246, 248, 250, 252, 254, 256, 258, 260, 262, 264, 266, 268, 270, 272, 274, 276, 278] (by decide +kernel) (by decide +kernel)
theorem hty8 : ∀ k, k < 19 → parseFieldDescriptor (TX4 k).2.2.1 = some (clT 8 k) := tyX4_ok
theorem hnm8 : ∀ a, a < 19 → ∀ b, b < 19 → a ≠ b → (TX4 a).2.1 ≠ (TX4 b).2.1 := nmX4
theorem hdf8 : ∀ k, k < 19 → defaultValue (clT 8 k) = if isR (clT 8 k) = true then .null else .int 0 := by decide +kernel
theorem hc9 : vwCl[9]? = some (RX5, TX5, 17) := rfl
theorem hin9 : ∀ w ∈ u_ws RX5 TX5 17, w ∈ TB := TB_all [177, 179, 181, 183, 185, 187, 189, 191, 193, 195, 197, 199, 201, 203, 205, 207, 209] (by decide +kernel) (by decide +kernel)
theorem hty9 : ∀ k, k < 17 → parseFieldDescriptor (TX5 k).2.2.1 = some (clT 9 k) := tyX5_ok
theorem hnm9 : ∀ a, a < 17 → ∀ b, b < 17 → a ≠ b → (TX5 a).2.1 ≠ (TX5 b).2.1 := nmX5
theorem hdf9 : ∀ k, k < 17 → defaultValue (clT 9 k) = if isR (clT 9 k) = true then .null else .int 0 := by decide +kernel
theorem hc10 : vwCl[10]? = some (RX6, TX6, 1) := rfl
theorem hin10 : ∀ w ∈ u_ws RX6 TX6 1, w ∈ TB := TB_all [363] (by decide +kernel) (by decide +kernel)
theorem hty10 : ∀ k, k < 1 → parseFieldDescriptor (TX6 k).2.2.1 = some (clT 10 k) := tyX6_ok
theorem hnm10 : ∀ a, a < 1 → ∀ b, b < 1 → a ≠ b → (TX6 a).2.1 ≠ (TX6 b).2.1 := nmX6
theorem hdf10 : ∀ k, k < 1 → defaultValue (clT 10 k) = if isR (clT 10 k) = true then .null else .int 0 := by decide +kernel
theorem hc11 : vwCl[11]? = some (RX7, TX7, 2) := rfl
theorem hin11 : ∀ w ∈ u_ws RX7 TX7 2, w ∈ TB := TB_all [370, 372] (by decide +kernel) (by decide +kernel)
theorem hty11 : ∀ k, k < 2 → parseFieldDescriptor (TX7 k).2.2.1 = some (clT 11 k) := tyX7_ok
theorem hnm11 : ∀ a, a < 2 → ∀ b, b < 2 → a ≠ b → (TX7 a).2.1 ≠ (TX7 b).2.1 := nmX7
theorem hdf11 : ∀ k, k < 2 → defaultValue (clT 11 k) = if isR (clT 11 k) = true then .null else .int 0 := by decide +kernel
theorem hc12 : vwCl[12]? = some (RX8, TX8, 3) := rfl
theorem hin12 : ∀ w ∈ u_ws RX8 TX8 3, w ∈ TB := TB_all [140, 142, 144] (by decide +kernel) (by decide +kernel)
theorem hty12 : ∀ k, k < 3 → parseFieldDescriptor (TX8 k).2.2.1 = some (clT 12 k) := tyX8_ok
theorem hnm12 : ∀ a, a < 3 → ∀ b, b < 3 → a ≠ b → (TX8 a).2.1 ≠ (TX8 b).2.1 := nmX8
theorem hdf12 : ∀ k, k < 3 → defaultValue (clT 12 k) = if isR (clT 12 k) = true then .null else .int 0 := by decide +kernel
theorem hc13 : vwCl[13]? = some (RX9, TX9, 5) := rfl
theorem hin13 : ∀ w ∈ u_ws RX9 TX9 5, w ∈ TB := TB_all [1457, 1459, 1461, 1463, 1465] (by decide +kernel) (by decide +kernel)
theorem hty13 : ∀ k, k < 5 → parseFieldDescriptor (TX9 k).2.2.1 = some (clT 13 k) := tyX9_ok
theorem hnm13 : ∀ a, a < 5 → ∀ b, b < 5 → a ≠ b → (TX9 a).2.1 ≠ (TX9 b).2.1 := nmX9
theorem hdf13 : ∀ k, k < 5 → defaultValue (clT 13 k) = if isR (clT 13 k) = true then .null else .int 0 := by decide +kernel
theorem hc14 : vwCl[14]? = some (RX10, TX10, 4) := rfl
theorem hin14 : ∀ w ∈ u_ws RX10 TX10 4, w ∈ TB := TB_all [1572, 1574, 1576, 1578] (by decide +kernel) (by decide +kernel)
theorem hty14 : ∀ k, k < 4 → parseFieldDescriptor (TX10 k).2.2.1 = some (clT 14 k) := tyX10_ok
theorem hnm14 : ∀ a, a < 4 → ∀ b, b < 4 → a ≠ b → (TX10 a).2.1 ≠ (TX10 b).2.1 := nmX10
theorem hdf14 : ∀ k, k < 4 → defaultValue (clT 14 k) = if isR (clT 14 k) = true then .null else .int 0 := by decide +kernel
theorem hc15 : vwCl[15]? = some (RX11, TX11, 19) := rfl
theorem hin15 : ∀ w ∈ u_ws RX11 TX11 19, w ∈ TB := TB_all [394, 396, 398, 400, 402, 404, 406, 408, 410, 412, 414, 416, 418, 420, 422, 424, 426, 428, 430] (by decide +kernel) (by decide +kernel)
theorem hty15 : ∀ k, k < 19 → parseFieldDescriptor (TX11 k).2.2.1 = some (clT 15 k) := tyX11_ok
theorem hnm15 : ∀ a, a < 19 → ∀ b, b < 19 → a ≠ b → (TX11 a).2.1 ≠ (TX11 b).2.1 := nmX11
theorem hdf15 : ∀ k, k < 19 → defaultValue (clT 15 k) = if isR (clT 15 k) = true then .null else .int 0 := by decide +kernel
theorem hc16 : vwCl[16]? = some (RX12, TX12, 83) := rfl
theorem hin16 : ∀ w ∈ u_ws RX12 TX12 83, w ∈ TB := TB_all [2050, 2052, 2054, 2056, 2058, 2060, 2062, 2064, 2066, 2068, 2070, 2072, 2074, 2076, 2078, 2080, 2082, 2084, 2086, 2088, 2090, 2092, 2094, 2096, 2098, 2100, 2102, 2104, 2106, 2108, 2110, 2112, 2114, 2116, 2118, 2120, 2122, 2124, 2126, 2128, 2130, 2132, 2134, 2136, 2138, 2140, 2142, 2144, 2146, 2148, 2150, 2152, 2154, 2156, 2158, 2160, 2162, 2164, 2166, 2168, 2170, 2172, 2174, 2176, 2178, 2180, 2182, 2184, 2186, 2188, 2190, 2192, 2194, 2196, 2198, 2200, 2202, 2204, 2206, 2208, 2210, 2212, 2214] (by decide +kernel) (by decide +kernel)
theorem hty16 : ∀ k, k < 83 → parseFieldDescriptor (TX12 k).2.2.1 = some (clT 16 k) := tyX12_ok
theorem hnm16 : ∀ a, a < 83 → ∀ b, b < 83 → a ≠ b → (TX12 a).2.1 ≠ (TX12 b).2.1 := nmX12
theorem hdf16 : ∀ k, k < 83 → defaultValue (clT 16 k) = if isR (clT 16 k) = true then .null else .int 0 := by decide +kernel
