/-! the law decoded -/
theorem dL_law_2011 : decode cL_law 2011 = .ok (.iadd, 1) := by decide +kernel
theorem dL_law_2012 : decode cL_law 2012 = .ok (.iaload, 1) := by decide +kernel
theorem dL_law_2013 : decode cL_law 2013 = .ok (.aload_n 3, 1) := by decide +kernel
theorem dL_law_2014 : decode cL_law 2014 = .ok (.invokestatic 227, 3) := by decide +kernel
theorem dL_law_2017 : decode cL_law 2017 = .ok (.istore 5, 2) := by decide +kernel
theorem dL_law_2019 : decode cL_law 2019 = .ok (.aload_n 2, 1) := by decide +kernel
theorem dL_law_2020 : decode cL_law 2020 = .ok (.aload_n 0, 1) := by decide +kernel
theorem dL_law_2021 : decode cL_law 2021 = .ok (.iload 4, 2) := by decide +kernel
theorem dL_law_2023 : decode cL_law 2023 = .ok (.iconst 1, 1) := by decide +kernel
theorem dL_law_2024 : decode cL_law 2024 = .ok (.iadd, 1) := by decide +kernel
theorem dL_law_2025 : decode cL_law 2025 = .ok (.iaload, 1) := by decide +kernel
theorem dL_law_2026 : decode cL_law 2026 = .ok (.invokevirtual 229, 3) := by decide +kernel
theorem dL_law_2029 : decode cL_law 2029 = .ok (.istore 6, 2) := by decide +kernel
theorem dL_law_2031 : decode cL_law 2031 = .ok (.aload_n 2, 1) := by decide +kernel
theorem dL_law_2032 : decode cL_law 2032 = .ok (.invokevirtual 114, 3) := by decide +kernel
theorem dL_law_2035 : decode cL_law 2035 = .ok (.iload 5, 2) := by decide +kernel
theorem dL_law_2037 : decode cL_law 2037 = .ok (.if_icmp .eq 5, 3) := by decide +kernel
theorem dL_law_2040 : decode cL_law 2040 = .ok (.iconst 0, 1) := by decide +kernel
theorem dL_law_2041 : decode cL_law 2041 = .ok (.ireturn, 1) := by decide +kernel
theorem dL_law_2042 : decode cL_law 2042 = .ok (.iload 5, 2) := by decide +kernel
theorem dL_law_2044 : decode cL_law 2044 = .ok (.ifCond .ne 15, 3) := by decide +kernel
theorem dL_law_2047 : decode cL_law 2047 = .ok (.aload_n 3, 1) := by decide +kernel
theorem dL_law_2048 : decode cL_law 2048 = .ok (.iconst 0, 1) := by decide +kernel
theorem dL_law_2049 : decode cL_law 2049 = .ok (.laload, 1) := by decide +kernel
theorem dL_law_2050 : decode cL_law 2050 = .ok (.iload 6, 2) := by decide +kernel
theorem dL_law_2052 : decode cL_law 2052 = .ok (.i2l, 1) := by decide +kernel
theorem dL_law_2053 : decode cL_law 2053 = .ok (.lcmp, 1) := by decide +kernel
theorem dL_law_2054 : decode cL_law 2054 = .ok (.ifCond .eq 5, 3) := by decide +kernel
theorem dL_law_2057 : decode cL_law 2057 = .ok (.iconst 0, 1) := by decide +kernel
theorem dL_law_2058 : decode cL_law 2058 = .ok (.ireturn, 1) := by decide +kernel
theorem dL_law_2059 : decode cL_law 2059 = .ok (.goto 113, 3) := by decide +kernel
theorem dL_law_2062 : decode cL_law 2062 = .ok (.aload_n 1, 1) := by decide +kernel
theorem dL_law_2063 : decode cL_law 2063 = .ok (.aload_n 0, 1) := by decide +kernel
theorem dL_law_2064 : decode cL_law 2064 = .ok (.iload 4, 2) := by decide +kernel
theorem dL_law_2066 : decode cL_law 2066 = .ok (.iconst 1, 1) := by decide +kernel
theorem dL_law_2067 : decode cL_law 2067 = .ok (.iadd, 1) := by decide +kernel
theorem dL_law_2068 : decode cL_law 2068 = .ok (.iaload, 1) := by decide +kernel
theorem dL_law_2069 : decode cL_law 2069 = .ok (.invokevirtual 230, 3) := by decide +kernel
theorem dL_law_2072 : decode cL_law 2072 = .ok (.aload_n 2, 1) := by decide +kernel
theorem dL_law_2073 : decode cL_law 2073 = .ok (.aload_n 0, 1) := by decide +kernel
theorem dL_law_2074 : decode cL_law 2074 = .ok (.iload 4, 2) := by decide +kernel
theorem dL_law_2076 : decode cL_law 2076 = .ok (.iconst 1, 1) := by decide +kernel
theorem dL_law_2077 : decode cL_law 2077 = .ok (.iadd, 1) := by decide +kernel
theorem dL_law_2078 : decode cL_law 2078 = .ok (.iaload, 1) := by decide +kernel
theorem dL_law_2079 : decode cL_law 2079 = .ok (.invokevirtual 233, 3) := by decide +kernel
theorem dL_law_2082 : decode cL_law 2082 = .ok (.if_icmp .eq 90, 3) := by decide +kernel
theorem dL_law_2085 : decode cL_law 2085 = .ok (.iconst 0, 1) := by decide +kernel
theorem dL_law_2086 : decode cL_law 2086 = .ok (.ireturn, 1) := by decide +kernel
theorem dL_law_2087 : decode cL_law 2087 = .ok (.aload_n 1, 1) := by decide +kernel
theorem dL_law_2088 : decode cL_law 2088 = .ok (.invokevirtual 234, 3) := by decide +kernel
theorem dL_law_2091 : decode cL_law 2091 = .ok (.aload_n 2, 1) := by decide +kernel
theorem dL_law_2092 : decode cL_law 2092 = .ok (.invokevirtual 237, 3) := by decide +kernel
theorem dL_law_2095 : decode cL_law 2095 = .ok (.if_icmp .eq 77, 3) := by decide +kernel
theorem dL_law_2098 : decode cL_law 2098 = .ok (.iconst 0, 1) := by decide +kernel
theorem dL_law_2099 : decode cL_law 2099 = .ok (.ireturn, 1) := by decide +kernel
theorem dL_law_2100 : decode cL_law 2100 = .ok (.aload_n 1, 1) := by decide +kernel
theorem dL_law_2101 : decode cL_law 2101 = .ok (.aload_n 0, 1) := by decide +kernel
theorem dL_law_2102 : decode cL_law 2102 = .ok (.iload 4, 2) := by decide +kernel
theorem dL_law_2104 : decode cL_law 2104 = .ok (.iconst 1, 1) := by decide +kernel
theorem dL_law_2105 : decode cL_law 2105 = .ok (.iadd, 1) := by decide +kernel
theorem dL_law_2106 : decode cL_law 2106 = .ok (.iaload, 1) := by decide +kernel
theorem dL_law_2107 : decode cL_law 2107 = .ok (.invokestatic 238, 3) := by decide +kernel
theorem dL_law_2110 : decode cL_law 2110 = .ok (.istore 5, 2) := by decide +kernel
theorem dL_law_2112 : decode cL_law 2112 = .ok (.aload_n 2, 1) := by decide +kernel
theorem dL_law_2113 : decode cL_law 2113 = .ok (.aload_n 0, 1) := by decide +kernel
theorem dL_law_2114 : decode cL_law 2114 = .ok (.iload 4, 2) := by decide +kernel
theorem dL_law_2116 : decode cL_law 2116 = .ok (.iconst 1, 1) := by decide +kernel
theorem dL_law_2117 : decode cL_law 2117 = .ok (.iadd, 1) := by decide +kernel
theorem dL_law_2118 : decode cL_law 2118 = .ok (.iaload, 1) := by decide +kernel
theorem dL_law_2119 : decode cL_law 2119 = .ok (.invokevirtual 241, 3) := by decide +kernel
theorem dL_law_2122 : decode cL_law 2122 = .ok (.aload_n 2, 1) := by decide +kernel
theorem dL_law_2123 : decode cL_law 2123 = .ok (.invokevirtual 114, 3) := by decide +kernel
theorem dL_law_2126 : decode cL_law 2126 = .ok (.iload 5, 2) := by decide +kernel
theorem dL_law_2128 : decode cL_law 2128 = .ok (.if_icmp .eq 5, 3) := by decide +kernel
theorem dL_law_2131 : decode cL_law 2131 = .ok (.iconst 0, 1) := by decide +kernel
theorem dL_law_2132 : decode cL_law 2132 = .ok (.ireturn, 1) := by decide +kernel
theorem dL_law_2133 : decode cL_law 2133 = .ok (.goto 39, 3) := by decide +kernel
theorem dL_law_2136 : decode cL_law 2136 = .ok (.aload_n 1, 1) := by decide +kernel
theorem dL_law_2137 : decode cL_law 2137 = .ok (.aload_n 0, 1) := by decide +kernel
theorem dL_law_2138 : decode cL_law 2138 = .ok (.iload 4, 2) := by decide +kernel
theorem dL_law_2140 : decode cL_law 2140 = .ok (.iconst 1, 1) := by decide +kernel
theorem dL_law_2141 : decode cL_law 2141 = .ok (.iadd, 1) := by decide +kernel
theorem dL_law_2142 : decode cL_law 2142 = .ok (.iaload, 1) := by decide +kernel
theorem dL_law_2143 : decode cL_law 2143 = .ok (.invokestatic 242, 3) := by decide +kernel
theorem dL_law_2146 : decode cL_law 2146 = .ok (.istore 5, 2) := by decide +kernel
theorem dL_law_2148 : decode cL_law 2148 = .ok (.aload_n 2, 1) := by decide +kernel
theorem dL_law_2149 : decode cL_law 2149 = .ok (.aload_n 0, 1) := by decide +kernel
theorem dL_law_2150 : decode cL_law 2150 = .ok (.iload 4, 2) := by decide +kernel
theorem dL_law_2152 : decode cL_law 2152 = .ok (.iconst 1, 1) := by decide +kernel
theorem dL_law_2153 : decode cL_law 2153 = .ok (.iadd, 1) := by decide +kernel
theorem dL_law_2154 : decode cL_law 2154 = .ok (.iaload, 1) := by decide +kernel
theorem dL_law_2155 : decode cL_law 2155 = .ok (.invokevirtual 244, 3) := by decide +kernel
theorem dL_law_2158 : decode cL_law 2158 = .ok (.aload_n 2, 1) := by decide +kernel
theorem dL_law_2159 : decode cL_law 2159 = .ok (.invokevirtual 114, 3) := by decide +kernel
theorem dL_law_2162 : decode cL_law 2162 = .ok (.iload 5, 2) := by decide +kernel
theorem dL_law_2164 : decode cL_law 2164 = .ok (.if_icmp .eq 5, 3) := by decide +kernel
theorem dL_law_2167 : decode cL_law 2167 = .ok (.iconst 0, 1) := by decide +kernel
theorem dL_law_2168 : decode cL_law 2168 = .ok (.ireturn, 1) := by decide +kernel
theorem dL_law_2169 : decode cL_law 2169 = .ok (.goto 3, 3) := by decide +kernel
theorem dL_law_2172 : decode cL_law 2172 = .ok (.iinc 4 5, 3) := by decide +kernel
theorem dL_law_2175 : decode cL_law 2175 = .ok (.goto (-2152), 3) := by decide +kernel
theorem dL_law_2178 : decode cL_law 2178 = .ok (.iconst 1, 1) := by decide +kernel
theorem dL_law_2179 : decode cL_law 2179 = .ok (.ireturn, 1) := by decide +kernel
