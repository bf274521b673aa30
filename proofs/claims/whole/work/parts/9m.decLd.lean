theorem dL_law_1895 : decode cL_law 1895 = .ok (.iadd, 1) := by decide +kernel
theorem dL_law_1896 : decode cL_law 1896 = .ok (.iaload, 1) := by decide +kernel
theorem dL_law_1897 : decode cL_law 1897 = .ok (.aload_n 0, 1) := by decide +kernel
theorem dL_law_1898 : decode cL_law 1898 = .ok (.iload 4, 2) := by decide +kernel
theorem dL_law_1900 : decode cL_law 1900 = .ok (.iconst 3, 1) := by decide +kernel
theorem dL_law_1901 : decode cL_law 1901 = .ok (.iadd, 1) := by decide +kernel
theorem dL_law_1902 : decode cL_law 1902 = .ok (.iaload, 1) := by decide +kernel
theorem dL_law_1903 : decode cL_law 1903 = .ok (.aload_n 0, 1) := by decide +kernel
theorem dL_law_1904 : decode cL_law 1904 = .ok (.iload 4, 2) := by decide +kernel
theorem dL_law_1906 : decode cL_law 1906 = .ok (.iconst 4, 1) := by decide +kernel
theorem dL_law_1907 : decode cL_law 1907 = .ok (.iadd, 1) := by decide +kernel
theorem dL_law_1908 : decode cL_law 1908 = .ok (.iaload, 1) := by decide +kernel
theorem dL_law_1909 : decode cL_law 1909 = .ok (.invokevirtual 243, 3) := by decide +kernel
theorem dL_law_1912 : decode cL_law 1912 = .ok (.istore 6, 2) := by decide +kernel
theorem dL_law_1914 : decode cL_law 1914 = .ok (.aload_n 2, 1) := by decide +kernel
theorem dL_law_1915 : decode cL_law 1915 = .ok (.invokevirtual 170, 3) := by decide +kernel
theorem dL_law_1918 : decode cL_law 1918 = .ok (.iload 5, 2) := by decide +kernel
theorem dL_law_1920 : decode cL_law 1920 = .ok (.if_icmp .eq 5, 3) := by decide +kernel
theorem dL_law_1923 : decode cL_law 1923 = .ok (.iconst 0, 1) := by decide +kernel
theorem dL_law_1924 : decode cL_law 1924 = .ok (.ireturn, 1) := by decide +kernel
theorem dL_law_1925 : decode cL_law 1925 = .ok (.iload 5, 2) := by decide +kernel
theorem dL_law_1927 : decode cL_law 1927 = .ok (.ifCond .ne 15, 3) := by decide +kernel
theorem dL_law_1930 : decode cL_law 1930 = .ok (.aload_n 3, 1) := by decide +kernel
theorem dL_law_1931 : decode cL_law 1931 = .ok (.iconst 0, 1) := by decide +kernel
theorem dL_law_1932 : decode cL_law 1932 = .ok (.laload, 1) := by decide +kernel
theorem dL_law_1933 : decode cL_law 1933 = .ok (.iload 6, 2) := by decide +kernel
theorem dL_law_1935 : decode cL_law 1935 = .ok (.i2l, 1) := by decide +kernel
theorem dL_law_1936 : decode cL_law 1936 = .ok (.lcmp, 1) := by decide +kernel
theorem dL_law_1937 : decode cL_law 1937 = .ok (.ifCond .eq 5, 3) := by decide +kernel
theorem dL_law_1940 : decode cL_law 1940 = .ok (.iconst 0, 1) := by decide +kernel
theorem dL_law_1941 : decode cL_law 1941 = .ok (.ireturn, 1) := by decide +kernel
theorem dL_law_1942 : decode cL_law 1942 = .ok (.goto 1608, 3) := by decide +kernel
theorem dL_law_1945 : decode cL_law 1945 = .ok (.aload_n 1, 1) := by decide +kernel
theorem dL_law_1946 : decode cL_law 1946 = .ok (.aload_n 0, 1) := by decide +kernel
theorem dL_law_1947 : decode cL_law 1947 = .ok (.iload 4, 2) := by decide +kernel
theorem dL_law_1949 : decode cL_law 1949 = .ok (.iconst 1, 1) := by decide +kernel
theorem dL_law_1950 : decode cL_law 1950 = .ok (.iadd, 1) := by decide +kernel
theorem dL_law_1951 : decode cL_law 1951 = .ok (.iaload, 1) := by decide +kernel
theorem dL_law_1952 : decode cL_law 1952 = .ok (.aload_n 3, 1) := by decide +kernel
theorem dL_law_1953 : decode cL_law 1953 = .ok (.invokestatic 244, 3) := by decide +kernel
theorem dL_law_1956 : decode cL_law 1956 = .ok (.istore 5, 2) := by decide +kernel
theorem dL_law_1958 : decode cL_law 1958 = .ok (.aload_n 2, 1) := by decide +kernel
theorem dL_law_1959 : decode cL_law 1959 = .ok (.aload_n 0, 1) := by decide +kernel
theorem dL_law_1960 : decode cL_law 1960 = .ok (.iload 4, 2) := by decide +kernel
theorem dL_law_1962 : decode cL_law 1962 = .ok (.iconst 1, 1) := by decide +kernel
theorem dL_law_1963 : decode cL_law 1963 = .ok (.iadd, 1) := by decide +kernel
theorem dL_law_1964 : decode cL_law 1964 = .ok (.iaload, 1) := by decide +kernel
theorem dL_law_1965 : decode cL_law 1965 = .ok (.invokevirtual 246, 3) := by decide +kernel
theorem dL_law_1968 : decode cL_law 1968 = .ok (.istore 6, 2) := by decide +kernel
theorem dL_law_1970 : decode cL_law 1970 = .ok (.aload_n 2, 1) := by decide +kernel
theorem dL_law_1971 : decode cL_law 1971 = .ok (.invokevirtual 170, 3) := by decide +kernel
theorem dL_law_1974 : decode cL_law 1974 = .ok (.iload 5, 2) := by decide +kernel
theorem dL_law_1976 : decode cL_law 1976 = .ok (.if_icmp .eq 5, 3) := by decide +kernel
theorem dL_law_1979 : decode cL_law 1979 = .ok (.iconst 0, 1) := by decide +kernel
theorem dL_law_1980 : decode cL_law 1980 = .ok (.ireturn, 1) := by decide +kernel
theorem dL_law_1981 : decode cL_law 1981 = .ok (.iload 5, 2) := by decide +kernel
theorem dL_law_1983 : decode cL_law 1983 = .ok (.ifCond .ne 15, 3) := by decide +kernel
theorem dL_law_1986 : decode cL_law 1986 = .ok (.aload_n 3, 1) := by decide +kernel
theorem dL_law_1987 : decode cL_law 1987 = .ok (.iconst 0, 1) := by decide +kernel
theorem dL_law_1988 : decode cL_law 1988 = .ok (.laload, 1) := by decide +kernel
theorem dL_law_1989 : decode cL_law 1989 = .ok (.iload 6, 2) := by decide +kernel
theorem dL_law_1991 : decode cL_law 1991 = .ok (.i2l, 1) := by decide +kernel
theorem dL_law_1992 : decode cL_law 1992 = .ok (.lcmp, 1) := by decide +kernel
theorem dL_law_1993 : decode cL_law 1993 = .ok (.ifCond .eq 5, 3) := by decide +kernel
theorem dL_law_1996 : decode cL_law 1996 = .ok (.iconst 0, 1) := by decide +kernel
theorem dL_law_1997 : decode cL_law 1997 = .ok (.ireturn, 1) := by decide +kernel
theorem dL_law_1998 : decode cL_law 1998 = .ok (.goto 1552, 3) := by decide +kernel
theorem dL_law_2001 : decode cL_law 2001 = .ok (.aload_n 1, 1) := by decide +kernel
theorem dL_law_2002 : decode cL_law 2002 = .ok (.invokevirtual 247, 3) := by decide +kernel
theorem dL_law_2005 : decode cL_law 2005 = .ok (.aload_n 2, 1) := by decide +kernel
theorem dL_law_2006 : decode cL_law 2006 = .ok (.invokevirtual 250, 3) := by decide +kernel
theorem dL_law_2009 : decode cL_law 2009 = .ok (.if_icmp .eq 1541, 3) := by decide +kernel
theorem dL_law_2012 : decode cL_law 2012 = .ok (.iconst 0, 1) := by decide +kernel
theorem dL_law_2013 : decode cL_law 2013 = .ok (.ireturn, 1) := by decide +kernel
theorem dL_law_2014 : decode cL_law 2014 = .ok (.aload_n 1, 1) := by decide +kernel
theorem dL_law_2015 : decode cL_law 2015 = .ok (.invokevirtual 251, 3) := by decide +kernel
theorem dL_law_2018 : decode cL_law 2018 = .ok (.aload_n 2, 1) := by decide +kernel
theorem dL_law_2019 : decode cL_law 2019 = .ok (.invokevirtual 254, 3) := by decide +kernel
theorem dL_law_2022 : decode cL_law 2022 = .ok (.if_icmp .eq 1528, 3) := by decide +kernel
theorem dL_law_2025 : decode cL_law 2025 = .ok (.iconst 0, 1) := by decide +kernel
theorem dL_law_2026 : decode cL_law 2026 = .ok (.ireturn, 1) := by decide +kernel
theorem dL_law_2027 : decode cL_law 2027 = .ok (.aload_n 1, 1) := by decide +kernel
theorem dL_law_2028 : decode cL_law 2028 = .ok (.aload_n 0, 1) := by decide +kernel
theorem dL_law_2029 : decode cL_law 2029 = .ok (.iload 4, 2) := by decide +kernel
theorem dL_law_2031 : decode cL_law 2031 = .ok (.iconst 1, 1) := by decide +kernel
theorem dL_law_2032 : decode cL_law 2032 = .ok (.iadd, 1) := by decide +kernel
theorem dL_law_2033 : decode cL_law 2033 = .ok (.iaload, 1) := by decide +kernel
theorem dL_law_2034 : decode cL_law 2034 = .ok (.aload_n 0, 1) := by decide +kernel
theorem dL_law_2035 : decode cL_law 2035 = .ok (.iload 4, 2) := by decide +kernel
theorem dL_law_2037 : decode cL_law 2037 = .ok (.iconst 2, 1) := by decide +kernel
theorem dL_law_2038 : decode cL_law 2038 = .ok (.iadd, 1) := by decide +kernel
theorem dL_law_2039 : decode cL_law 2039 = .ok (.iaload, 1) := by decide +kernel
theorem dL_law_2040 : decode cL_law 2040 = .ok (.aload_n 0, 1) := by decide +kernel
theorem dL_law_2041 : decode cL_law 2041 = .ok (.iload 4, 2) := by decide +kernel
theorem dL_law_2043 : decode cL_law 2043 = .ok (.iconst 3, 1) := by decide +kernel
theorem dL_law_2044 : decode cL_law 2044 = .ok (.iadd, 1) := by decide +kernel
theorem dL_law_2045 : decode cL_law 2045 = .ok (.iaload, 1) := by decide +kernel
theorem dL_law_2046 : decode cL_law 2046 = .ok (.aload_n 0, 1) := by decide +kernel
theorem dL_law_2047 : decode cL_law 2047 = .ok (.iload 4, 2) := by decide +kernel
theorem dL_law_2049 : decode cL_law 2049 = .ok (.iconst 4, 1) := by decide +kernel
theorem dL_law_2050 : decode cL_law 2050 = .ok (.iadd, 1) := by decide +kernel
theorem dL_law_2051 : decode cL_law 2051 = .ok (.iaload, 1) := by decide +kernel
theorem dL_law_2052 : decode cL_law 2052 = .ok (.aload_n 3, 1) := by decide +kernel
theorem dL_law_2053 : decode cL_law 2053 = .ok (.invokestatic 255, 3) := by decide +kernel
theorem dL_law_2056 : decode cL_law 2056 = .ok (.istore 5, 2) := by decide +kernel
theorem dL_law_2058 : decode cL_law 2058 = .ok (.aload_n 2, 1) := by decide +kernel
theorem dL_law_2059 : decode cL_law 2059 = .ok (.aload_n 0, 1) := by decide +kernel
theorem dL_law_2060 : decode cL_law 2060 = .ok (.iload 4, 2) := by decide +kernel
theorem dL_law_2062 : decode cL_law 2062 = .ok (.iconst 1, 1) := by decide +kernel
theorem dL_law_2063 : decode cL_law 2063 = .ok (.iadd, 1) := by decide +kernel
theorem dL_law_2064 : decode cL_law 2064 = .ok (.iaload, 1) := by decide +kernel
theorem dL_law_2065 : decode cL_law 2065 = .ok (.aload_n 0, 1) := by decide +kernel
theorem dL_law_2066 : decode cL_law 2066 = .ok (.iload 4, 2) := by decide +kernel
theorem dL_law_2068 : decode cL_law 2068 = .ok (.iconst 2, 1) := by decide +kernel
theorem dL_law_2069 : decode cL_law 2069 = .ok (.iadd, 1) := by decide +kernel
theorem dL_law_2070 : decode cL_law 2070 = .ok (.iaload, 1) := by decide +kernel
theorem dL_law_2071 : decode cL_law 2071 = .ok (.aload_n 0, 1) := by decide +kernel
theorem dL_law_2072 : decode cL_law 2072 = .ok (.iload 4, 2) := by decide +kernel
theorem dL_law_2074 : decode cL_law 2074 = .ok (.iconst 3, 1) := by decide +kernel
theorem dL_law_2075 : decode cL_law 2075 = .ok (.iadd, 1) := by decide +kernel
theorem dL_law_2076 : decode cL_law 2076 = .ok (.iaload, 1) := by decide +kernel
theorem dL_law_2077 : decode cL_law 2077 = .ok (.aload_n 0, 1) := by decide +kernel
theorem dL_law_2078 : decode cL_law 2078 = .ok (.iload 4, 2) := by decide +kernel
theorem dL_law_2080 : decode cL_law 2080 = .ok (.iconst 4, 1) := by decide +kernel
theorem dL_law_2081 : decode cL_law 2081 = .ok (.iadd, 1) := by decide +kernel
theorem dL_law_2082 : decode cL_law 2082 = .ok (.iaload, 1) := by decide +kernel
theorem dL_law_2083 : decode cL_law 2083 = .ok (.invokevirtual 257, 3) := by decide +kernel
theorem dL_law_2086 : decode cL_law 2086 = .ok (.istore 6, 2) := by decide +kernel
theorem dL_law_2088 : decode cL_law 2088 = .ok (.aload_n 2, 1) := by decide +kernel
theorem dL_law_2089 : decode cL_law 2089 = .ok (.invokevirtual 170, 3) := by decide +kernel
theorem dL_law_2092 : decode cL_law 2092 = .ok (.iload 5, 2) := by decide +kernel
theorem dL_law_2094 : decode cL_law 2094 = .ok (.if_icmp .eq 5, 3) := by decide +kernel
theorem dL_law_2097 : decode cL_law 2097 = .ok (.iconst 0, 1) := by decide +kernel
theorem dL_law_2098 : decode cL_law 2098 = .ok (.ireturn, 1) := by decide +kernel
theorem dL_law_2099 : decode cL_law 2099 = .ok (.iload 5, 2) := by decide +kernel
theorem dL_law_2101 : decode cL_law 2101 = .ok (.ifCond .ne 15, 3) := by decide +kernel
theorem dL_law_2104 : decode cL_law 2104 = .ok (.aload_n 3, 1) := by decide +kernel
theorem dL_law_2105 : decode cL_law 2105 = .ok (.iconst 0, 1) := by decide +kernel
theorem dL_law_2106 : decode cL_law 2106 = .ok (.laload, 1) := by decide +kernel
theorem dL_law_2107 : decode cL_law 2107 = .ok (.iload 6, 2) := by decide +kernel
theorem dL_law_2109 : decode cL_law 2109 = .ok (.i2l, 1) := by decide +kernel
theorem dL_law_2110 : decode cL_law 2110 = .ok (.lcmp, 1) := by decide +kernel
theorem dL_law_2111 : decode cL_law 2111 = .ok (.ifCond .eq 5, 3) := by decide +kernel
theorem dL_law_2114 : decode cL_law 2114 = .ok (.iconst 0, 1) := by decide +kernel
theorem dL_law_2115 : decode cL_law 2115 = .ok (.ireturn, 1) := by decide +kernel
theorem dL_law_2116 : decode cL_law 2116 = .ok (.goto 1434, 3) := by decide +kernel
theorem dL_law_2119 : decode cL_law 2119 = .ok (.aload_n 1, 1) := by decide +kernel
theorem dL_law_2120 : decode cL_law 2120 = .ok (.aload_n 0, 1) := by decide +kernel
theorem dL_law_2121 : decode cL_law 2121 = .ok (.iload 4, 2) := by decide +kernel
theorem dL_law_2123 : decode cL_law 2123 = .ok (.iconst 1, 1) := by decide +kernel
theorem dL_law_2124 : decode cL_law 2124 = .ok (.iadd, 1) := by decide +kernel
theorem dL_law_2125 : decode cL_law 2125 = .ok (.iaload, 1) := by decide +kernel
theorem dL_law_2126 : decode cL_law 2126 = .ok (.aload_n 0, 1) := by decide +kernel
theorem dL_law_2127 : decode cL_law 2127 = .ok (.iload 4, 2) := by decide +kernel
theorem dL_law_2129 : decode cL_law 2129 = .ok (.iconst 2, 1) := by decide +kernel
theorem dL_law_2130 : decode cL_law 2130 = .ok (.iadd, 1) := by decide +kernel
theorem dL_law_2131 : decode cL_law 2131 = .ok (.iaload, 1) := by decide +kernel
theorem dL_law_2132 : decode cL_law 2132 = .ok (.aload_n 0, 1) := by decide +kernel
theorem dL_law_2133 : decode cL_law 2133 = .ok (.iload 4, 2) := by decide +kernel
theorem dL_law_2135 : decode cL_law 2135 = .ok (.iconst 3, 1) := by decide +kernel
theorem dL_law_2136 : decode cL_law 2136 = .ok (.iadd, 1) := by decide +kernel
theorem dL_law_2137 : decode cL_law 2137 = .ok (.iaload, 1) := by decide +kernel
theorem dL_law_2138 : decode cL_law 2138 = .ok (.aload_n 3, 1) := by decide +kernel
theorem dL_law_2139 : decode cL_law 2139 = .ok (.invokestatic 258, 3) := by decide +kernel
theorem dL_law_2142 : decode cL_law 2142 = .ok (.istore 5, 2) := by decide +kernel
theorem dL_law_2144 : decode cL_law 2144 = .ok (.aload_n 2, 1) := by decide +kernel
theorem dL_law_2145 : decode cL_law 2145 = .ok (.aload_n 0, 1) := by decide +kernel
theorem dL_law_2146 : decode cL_law 2146 = .ok (.iload 4, 2) := by decide +kernel
theorem dL_law_2148 : decode cL_law 2148 = .ok (.iconst 1, 1) := by decide +kernel
theorem dL_law_2149 : decode cL_law 2149 = .ok (.iadd, 1) := by decide +kernel
theorem dL_law_2150 : decode cL_law 2150 = .ok (.iaload, 1) := by decide +kernel
theorem dL_law_2151 : decode cL_law 2151 = .ok (.aload_n 0, 1) := by decide +kernel
theorem dL_law_2152 : decode cL_law 2152 = .ok (.iload 4, 2) := by decide +kernel
theorem dL_law_2154 : decode cL_law 2154 = .ok (.iconst 2, 1) := by decide +kernel
theorem dL_law_2155 : decode cL_law 2155 = .ok (.iadd, 1) := by decide +kernel
theorem dL_law_2156 : decode cL_law 2156 = .ok (.iaload, 1) := by decide +kernel
theorem dL_law_2157 : decode cL_law 2157 = .ok (.aload_n 0, 1) := by decide +kernel
theorem dL_law_2158 : decode cL_law 2158 = .ok (.iload 4, 2) := by decide +kernel
theorem dL_law_2160 : decode cL_law 2160 = .ok (.iconst 3, 1) := by decide +kernel
theorem dL_law_2161 : decode cL_law 2161 = .ok (.iadd, 1) := by decide +kernel
theorem dL_law_2162 : decode cL_law 2162 = .ok (.iaload, 1) := by decide +kernel
theorem dL_law_2163 : decode cL_law 2163 = .ok (.invokevirtual 260, 3) := by decide +kernel
theorem dL_law_2166 : decode cL_law 2166 = .ok (.istore 6, 2) := by decide +kernel
theorem dL_law_2168 : decode cL_law 2168 = .ok (.aload_n 2, 1) := by decide +kernel
theorem dL_law_2169 : decode cL_law 2169 = .ok (.invokevirtual 170, 3) := by decide +kernel
theorem dL_law_2172 : decode cL_law 2172 = .ok (.iload 5, 2) := by decide +kernel
theorem dL_law_2174 : decode cL_law 2174 = .ok (.if_icmp .eq 5, 3) := by decide +kernel
theorem dL_law_2177 : decode cL_law 2177 = .ok (.iconst 0, 1) := by decide +kernel
theorem dL_law_2178 : decode cL_law 2178 = .ok (.ireturn, 1) := by decide +kernel
theorem dL_law_2179 : decode cL_law 2179 = .ok (.iload 5, 2) := by decide +kernel
theorem dL_law_2181 : decode cL_law 2181 = .ok (.ifCond .ne 15, 3) := by decide +kernel
theorem dL_law_2184 : decode cL_law 2184 = .ok (.aload_n 3, 1) := by decide +kernel
theorem dL_law_2185 : decode cL_law 2185 = .ok (.iconst 0, 1) := by decide +kernel
theorem dL_law_2186 : decode cL_law 2186 = .ok (.laload, 1) := by decide +kernel
theorem dL_law_2187 : decode cL_law 2187 = .ok (.iload 6, 2) := by decide +kernel
theorem dL_law_2189 : decode cL_law 2189 = .ok (.i2l, 1) := by decide +kernel
theorem dL_law_2190 : decode cL_law 2190 = .ok (.lcmp, 1) := by decide +kernel
theorem dL_law_2191 : decode cL_law 2191 = .ok (.ifCond .eq 5, 3) := by decide +kernel
theorem dL_law_2194 : decode cL_law 2194 = .ok (.iconst 0, 1) := by decide +kernel
theorem dL_law_2195 : decode cL_law 2195 = .ok (.ireturn, 1) := by decide +kernel
theorem dL_law_2196 : decode cL_law 2196 = .ok (.goto 1354, 3) := by decide +kernel
theorem dL_law_2199 : decode cL_law 2199 = .ok (.aload_n 1, 1) := by decide +kernel
theorem dL_law_2200 : decode cL_law 2200 = .ok (.aload_n 0, 1) := by decide +kernel
theorem dL_law_2201 : decode cL_law 2201 = .ok (.iload 4, 2) := by decide +kernel
theorem dL_law_2203 : decode cL_law 2203 = .ok (.iconst 1, 1) := by decide +kernel
theorem dL_law_2204 : decode cL_law 2204 = .ok (.iadd, 1) := by decide +kernel
theorem dL_law_2205 : decode cL_law 2205 = .ok (.iaload, 1) := by decide +kernel
theorem dL_law_2206 : decode cL_law 2206 = .ok (.aload_n 0, 1) := by decide +kernel
theorem dL_law_2207 : decode cL_law 2207 = .ok (.iload 4, 2) := by decide +kernel
theorem dL_law_2209 : decode cL_law 2209 = .ok (.iconst 2, 1) := by decide +kernel
theorem dL_law_2210 : decode cL_law 2210 = .ok (.iadd, 1) := by decide +kernel
theorem dL_law_2211 : decode cL_law 2211 = .ok (.iaload, 1) := by decide +kernel
theorem dL_law_2212 : decode cL_law 2212 = .ok (.aload_n 0, 1) := by decide +kernel
theorem dL_law_2213 : decode cL_law 2213 = .ok (.iload 4, 2) := by decide +kernel
theorem dL_law_2215 : decode cL_law 2215 = .ok (.iconst 3, 1) := by decide +kernel
theorem dL_law_2216 : decode cL_law 2216 = .ok (.iadd, 1) := by decide +kernel
theorem dL_law_2217 : decode cL_law 2217 = .ok (.iaload, 1) := by decide +kernel
theorem dL_law_2218 : decode cL_law 2218 = .ok (.aload_n 3, 1) := by decide +kernel
theorem dL_law_2219 : decode cL_law 2219 = .ok (.invokestatic 261, 3) := by decide +kernel
theorem dL_law_2222 : decode cL_law 2222 = .ok (.istore 5, 2) := by decide +kernel
theorem dL_law_2224 : decode cL_law 2224 = .ok (.aload_n 2, 1) := by decide +kernel
theorem dL_law_2225 : decode cL_law 2225 = .ok (.aload_n 0, 1) := by decide +kernel
theorem dL_law_2226 : decode cL_law 2226 = .ok (.iload 4, 2) := by decide +kernel
theorem dL_law_2228 : decode cL_law 2228 = .ok (.iconst 1, 1) := by decide +kernel
theorem dL_law_2229 : decode cL_law 2229 = .ok (.iadd, 1) := by decide +kernel
theorem dL_law_2230 : decode cL_law 2230 = .ok (.iaload, 1) := by decide +kernel
theorem dL_law_2231 : decode cL_law 2231 = .ok (.aload_n 0, 1) := by decide +kernel
theorem dL_law_2232 : decode cL_law 2232 = .ok (.iload 4, 2) := by decide +kernel
theorem dL_law_2234 : decode cL_law 2234 = .ok (.iconst 2, 1) := by decide +kernel
theorem dL_law_2235 : decode cL_law 2235 = .ok (.iadd, 1) := by decide +kernel
theorem dL_law_2236 : decode cL_law 2236 = .ok (.iaload, 1) := by decide +kernel
theorem dL_law_2237 : decode cL_law 2237 = .ok (.aload_n 0, 1) := by decide +kernel
theorem dL_law_2238 : decode cL_law 2238 = .ok (.iload 4, 2) := by decide +kernel
theorem dL_law_2240 : decode cL_law 2240 = .ok (.iconst 3, 1) := by decide +kernel
theorem dL_law_2241 : decode cL_law 2241 = .ok (.iadd, 1) := by decide +kernel
theorem dL_law_2242 : decode cL_law 2242 = .ok (.iaload, 1) := by decide +kernel
theorem dL_law_2243 : decode cL_law 2243 = .ok (.invokevirtual 263, 3) := by decide +kernel
theorem dL_law_2246 : decode cL_law 2246 = .ok (.istore 6, 2) := by decide +kernel
theorem dL_law_2248 : decode cL_law 2248 = .ok (.aload_n 2, 1) := by decide +kernel
theorem dL_law_2249 : decode cL_law 2249 = .ok (.invokevirtual 170, 3) := by decide +kernel
theorem dL_law_2252 : decode cL_law 2252 = .ok (.iload 5, 2) := by decide +kernel
theorem dL_law_2254 : decode cL_law 2254 = .ok (.if_icmp .eq 5, 3) := by decide +kernel
theorem dL_law_2257 : decode cL_law 2257 = .ok (.iconst 0, 1) := by decide +kernel
theorem dL_law_2258 : decode cL_law 2258 = .ok (.ireturn, 1) := by decide +kernel
theorem dL_law_2259 : decode cL_law 2259 = .ok (.iload 5, 2) := by decide +kernel
theorem dL_law_2261 : decode cL_law 2261 = .ok (.ifCond .ne 15, 3) := by decide +kernel
theorem dL_law_2264 : decode cL_law 2264 = .ok (.aload_n 3, 1) := by decide +kernel
theorem dL_law_2265 : decode cL_law 2265 = .ok (.iconst 0, 1) := by decide +kernel
theorem dL_law_2266 : decode cL_law 2266 = .ok (.laload, 1) := by decide +kernel
theorem dL_law_2267 : decode cL_law 2267 = .ok (.iload 6, 2) := by decide +kernel
theorem dL_law_2269 : decode cL_law 2269 = .ok (.i2l, 1) := by decide +kernel
theorem dL_law_2270 : decode cL_law 2270 = .ok (.lcmp, 1) := by decide +kernel
theorem dL_law_2271 : decode cL_law 2271 = .ok (.ifCond .eq 5, 3) := by decide +kernel
theorem dL_law_2274 : decode cL_law 2274 = .ok (.iconst 0, 1) := by decide +kernel
theorem dL_law_2275 : decode cL_law 2275 = .ok (.ireturn, 1) := by decide +kernel
theorem dL_law_2276 : decode cL_law 2276 = .ok (.goto 1274, 3) := by decide +kernel
theorem dL_law_2279 : decode cL_law 2279 = .ok (.aload_n 1, 1) := by decide +kernel
theorem dL_law_2280 : decode cL_law 2280 = .ok (.aload_n 0, 1) := by decide +kernel
theorem dL_law_2281 : decode cL_law 2281 = .ok (.iload 4, 2) := by decide +kernel
theorem dL_law_2283 : decode cL_law 2283 = .ok (.iconst 1, 1) := by decide +kernel
theorem dL_law_2284 : decode cL_law 2284 = .ok (.iadd, 1) := by decide +kernel
theorem dL_law_2285 : decode cL_law 2285 = .ok (.iaload, 1) := by decide +kernel
theorem dL_law_2286 : decode cL_law 2286 = .ok (.aload_n 0, 1) := by decide +kernel
theorem dL_law_2287 : decode cL_law 2287 = .ok (.iload 4, 2) := by decide +kernel
theorem dL_law_2289 : decode cL_law 2289 = .ok (.iconst 2, 1) := by decide +kernel
theorem dL_law_2290 : decode cL_law 2290 = .ok (.iadd, 1) := by decide +kernel
theorem dL_law_2291 : decode cL_law 2291 = .ok (.iaload, 1) := by decide +kernel
theorem dL_law_2292 : decode cL_law 2292 = .ok (.aload_n 3, 1) := by decide +kernel
theorem dL_law_2293 : decode cL_law 2293 = .ok (.invokestatic 264, 3) := by decide +kernel
theorem dL_law_2296 : decode cL_law 2296 = .ok (.istore 5, 2) := by decide +kernel
theorem dL_law_2298 : decode cL_law 2298 = .ok (.aload_n 2, 1) := by decide +kernel
theorem dL_law_2299 : decode cL_law 2299 = .ok (.aload_n 0, 1) := by decide +kernel
theorem dL_law_2300 : decode cL_law 2300 = .ok (.iload 4, 2) := by decide +kernel
theorem dL_law_2302 : decode cL_law 2302 = .ok (.iconst 1, 1) := by decide +kernel
theorem dL_law_2303 : decode cL_law 2303 = .ok (.iadd, 1) := by decide +kernel
theorem dL_law_2304 : decode cL_law 2304 = .ok (.iaload, 1) := by decide +kernel
theorem dL_law_2305 : decode cL_law 2305 = .ok (.aload_n 0, 1) := by decide +kernel
theorem dL_law_2306 : decode cL_law 2306 = .ok (.iload 4, 2) := by decide +kernel
theorem dL_law_2308 : decode cL_law 2308 = .ok (.iconst 2, 1) := by decide +kernel
theorem dL_law_2309 : decode cL_law 2309 = .ok (.iadd, 1) := by decide +kernel
theorem dL_law_2310 : decode cL_law 2310 = .ok (.iaload, 1) := by decide +kernel
theorem dL_law_2311 : decode cL_law 2311 = .ok (.invokevirtual 266, 3) := by decide +kernel
theorem dL_law_2314 : decode cL_law 2314 = .ok (.istore 6, 2) := by decide +kernel
theorem dL_law_2316 : decode cL_law 2316 = .ok (.aload_n 2, 1) := by decide +kernel
theorem dL_law_2317 : decode cL_law 2317 = .ok (.invokevirtual 170, 3) := by decide +kernel
theorem dL_law_2320 : decode cL_law 2320 = .ok (.iload 5, 2) := by decide +kernel
theorem dL_law_2322 : decode cL_law 2322 = .ok (.if_icmp .eq 5, 3) := by decide +kernel
theorem dL_law_2325 : decode cL_law 2325 = .ok (.iconst 0, 1) := by decide +kernel
theorem dL_law_2326 : decode cL_law 2326 = .ok (.ireturn, 1) := by decide +kernel
theorem dL_law_2327 : decode cL_law 2327 = .ok (.iload 5, 2) := by decide +kernel
theorem dL_law_2329 : decode cL_law 2329 = .ok (.ifCond .ne 15, 3) := by decide +kernel
theorem dL_law_2332 : decode cL_law 2332 = .ok (.aload_n 3, 1) := by decide +kernel
theorem dL_law_2333 : decode cL_law 2333 = .ok (.iconst 0, 1) := by decide +kernel
theorem dL_law_2334 : decode cL_law 2334 = .ok (.laload, 1) := by decide +kernel
theorem dL_law_2335 : decode cL_law 2335 = .ok (.iload 6, 2) := by decide +kernel
theorem dL_law_2337 : decode cL_law 2337 = .ok (.i2l, 1) := by decide +kernel
theorem dL_law_2338 : decode cL_law 2338 = .ok (.lcmp, 1) := by decide +kernel
theorem dL_law_2339 : decode cL_law 2339 = .ok (.ifCond .eq 5, 3) := by decide +kernel
theorem dL_law_2342 : decode cL_law 2342 = .ok (.iconst 0, 1) := by decide +kernel
theorem dL_law_2343 : decode cL_law 2343 = .ok (.ireturn, 1) := by decide +kernel
theorem dL_law_2344 : decode cL_law 2344 = .ok (.goto 1206, 3) := by decide +kernel
theorem dL_law_2347 : decode cL_law 2347 = .ok (.aload_n 1, 1) := by decide +kernel
theorem dL_law_2348 : decode cL_law 2348 = .ok (.aload_n 0, 1) := by decide +kernel
theorem dL_law_2349 : decode cL_law 2349 = .ok (.iload 4, 2) := by decide +kernel
theorem dL_law_2351 : decode cL_law 2351 = .ok (.iconst 1, 1) := by decide +kernel
theorem dL_law_2352 : decode cL_law 2352 = .ok (.iadd, 1) := by decide +kernel
theorem dL_law_2353 : decode cL_law 2353 = .ok (.iaload, 1) := by decide +kernel
theorem dL_law_2354 : decode cL_law 2354 = .ok (.aload_n 3, 1) := by decide +kernel
theorem dL_law_2355 : decode cL_law 2355 = .ok (.invokestatic 267, 3) := by decide +kernel
theorem dL_law_2358 : decode cL_law 2358 = .ok (.istore 5, 2) := by decide +kernel
theorem dL_law_2360 : decode cL_law 2360 = .ok (.aload_n 2, 1) := by decide +kernel
theorem dL_law_2361 : decode cL_law 2361 = .ok (.aload_n 0, 1) := by decide +kernel
theorem dL_law_2362 : decode cL_law 2362 = .ok (.iload 4, 2) := by decide +kernel
theorem dL_law_2364 : decode cL_law 2364 = .ok (.iconst 1, 1) := by decide +kernel
theorem dL_law_2365 : decode cL_law 2365 = .ok (.iadd, 1) := by decide +kernel
theorem dL_law_2366 : decode cL_law 2366 = .ok (.iaload, 1) := by decide +kernel
theorem dL_law_2367 : decode cL_law 2367 = .ok (.invokevirtual 269, 3) := by decide +kernel
theorem dL_law_2370 : decode cL_law 2370 = .ok (.istore 6, 2) := by decide +kernel
theorem dL_law_2372 : decode cL_law 2372 = .ok (.aload_n 2, 1) := by decide +kernel
theorem dL_law_2373 : decode cL_law 2373 = .ok (.invokevirtual 170, 3) := by decide +kernel
theorem dL_law_2376 : decode cL_law 2376 = .ok (.iload 5, 2) := by decide +kernel
theorem dL_law_2378 : decode cL_law 2378 = .ok (.if_icmp .eq 5, 3) := by decide +kernel
theorem dL_law_2381 : decode cL_law 2381 = .ok (.iconst 0, 1) := by decide +kernel
theorem dL_law_2382 : decode cL_law 2382 = .ok (.ireturn, 1) := by decide +kernel
theorem dL_law_2383 : decode cL_law 2383 = .ok (.iload 5, 2) := by decide +kernel
theorem dL_law_2385 : decode cL_law 2385 = .ok (.ifCond .ne 15, 3) := by decide +kernel
theorem dL_law_2388 : decode cL_law 2388 = .ok (.aload_n 3, 1) := by decide +kernel
theorem dL_law_2389 : decode cL_law 2389 = .ok (.iconst 0, 1) := by decide +kernel
theorem dL_law_2390 : decode cL_law 2390 = .ok (.laload, 1) := by decide +kernel
theorem dL_law_2391 : decode cL_law 2391 = .ok (.iload 6, 2) := by decide +kernel
theorem dL_law_2393 : decode cL_law 2393 = .ok (.i2l, 1) := by decide +kernel
theorem dL_law_2394 : decode cL_law 2394 = .ok (.lcmp, 1) := by decide +kernel
theorem dL_law_2395 : decode cL_law 2395 = .ok (.ifCond .eq 5, 3) := by decide +kernel
theorem dL_law_2398 : decode cL_law 2398 = .ok (.iconst 0, 1) := by decide +kernel
theorem dL_law_2399 : decode cL_law 2399 = .ok (.ireturn, 1) := by decide +kernel
theorem dL_law_2400 : decode cL_law 2400 = .ok (.goto 1150, 3) := by decide +kernel
theorem dL_law_2403 : decode cL_law 2403 = .ok (.aload_n 1, 1) := by decide +kernel
theorem dL_law_2404 : decode cL_law 2404 = .ok (.aload_n 0, 1) := by decide +kernel
theorem dL_law_2405 : decode cL_law 2405 = .ok (.iload 4, 2) := by decide +kernel
theorem dL_law_2407 : decode cL_law 2407 = .ok (.iconst 1, 1) := by decide +kernel
theorem dL_law_2408 : decode cL_law 2408 = .ok (.iadd, 1) := by decide +kernel
theorem dL_law_2409 : decode cL_law 2409 = .ok (.iaload, 1) := by decide +kernel
theorem dL_law_2410 : decode cL_law 2410 = .ok (.aload_n 0, 1) := by decide +kernel
theorem dL_law_2411 : decode cL_law 2411 = .ok (.iload 4, 2) := by decide +kernel
theorem dL_law_2413 : decode cL_law 2413 = .ok (.iconst 2, 1) := by decide +kernel
theorem dL_law_2414 : decode cL_law 2414 = .ok (.iadd, 1) := by decide +kernel
theorem dL_law_2415 : decode cL_law 2415 = .ok (.iaload, 1) := by decide +kernel
theorem dL_law_2416 : decode cL_law 2416 = .ok (.aload_n 0, 1) := by decide +kernel
theorem dL_law_2417 : decode cL_law 2417 = .ok (.iload 4, 2) := by decide +kernel
theorem dL_law_2419 : decode cL_law 2419 = .ok (.iconst 3, 1) := by decide +kernel
theorem dL_law_2420 : decode cL_law 2420 = .ok (.iadd, 1) := by decide +kernel
theorem dL_law_2421 : decode cL_law 2421 = .ok (.iaload, 1) := by decide +kernel
theorem dL_law_2422 : decode cL_law 2422 = .ok (.aload_n 3, 1) := by decide +kernel
theorem dL_law_2423 : decode cL_law 2423 = .ok (.invokestatic 270, 3) := by decide +kernel
theorem dL_law_2426 : decode cL_law 2426 = .ok (.istore 5, 2) := by decide +kernel
theorem dL_law_2428 : decode cL_law 2428 = .ok (.aload_n 2, 1) := by decide +kernel
theorem dL_law_2429 : decode cL_law 2429 = .ok (.aload_n 0, 1) := by decide +kernel
theorem dL_law_2430 : decode cL_law 2430 = .ok (.iload 4, 2) := by decide +kernel
theorem dL_law_2432 : decode cL_law 2432 = .ok (.iconst 1, 1) := by decide +kernel
theorem dL_law_2433 : decode cL_law 2433 = .ok (.iadd, 1) := by decide +kernel
theorem dL_law_2434 : decode cL_law 2434 = .ok (.iaload, 1) := by decide +kernel
theorem dL_law_2435 : decode cL_law 2435 = .ok (.aload_n 0, 1) := by decide +kernel
theorem dL_law_2436 : decode cL_law 2436 = .ok (.iload 4, 2) := by decide +kernel
theorem dL_law_2438 : decode cL_law 2438 = .ok (.iconst 2, 1) := by decide +kernel
theorem dL_law_2439 : decode cL_law 2439 = .ok (.iadd, 1) := by decide +kernel
theorem dL_law_2440 : decode cL_law 2440 = .ok (.iaload, 1) := by decide +kernel
theorem dL_law_2441 : decode cL_law 2441 = .ok (.aload_n 0, 1) := by decide +kernel
theorem dL_law_2442 : decode cL_law 2442 = .ok (.iload 4, 2) := by decide +kernel
theorem dL_law_2444 : decode cL_law 2444 = .ok (.iconst 3, 1) := by decide +kernel
theorem dL_law_2445 : decode cL_law 2445 = .ok (.iadd, 1) := by decide +kernel
theorem dL_law_2446 : decode cL_law 2446 = .ok (.iaload, 1) := by decide +kernel
theorem dL_law_2447 : decode cL_law 2447 = .ok (.invokevirtual 272, 3) := by decide +kernel
theorem dL_law_2450 : decode cL_law 2450 = .ok (.istore 6, 2) := by decide +kernel
theorem dL_law_2452 : decode cL_law 2452 = .ok (.aload_n 2, 1) := by decide +kernel
theorem dL_law_2453 : decode cL_law 2453 = .ok (.invokevirtual 170, 3) := by decide +kernel
theorem dL_law_2456 : decode cL_law 2456 = .ok (.iload 5, 2) := by decide +kernel
theorem dL_law_2458 : decode cL_law 2458 = .ok (.if_icmp .eq 5, 3) := by decide +kernel
theorem dL_law_2461 : decode cL_law 2461 = .ok (.iconst 0, 1) := by decide +kernel
theorem dL_law_2462 : decode cL_law 2462 = .ok (.ireturn, 1) := by decide +kernel
theorem dL_law_2463 : decode cL_law 2463 = .ok (.iload 5, 2) := by decide +kernel
